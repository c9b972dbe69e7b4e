/-! ===== ORDERS: the reference finds the best ===== -/
def FrOd (μ0 μ : sm_Mem) : Prop := (∀ a, a ≠ 146 → a ≠ 147 → (a < 153 ∨ 161 ≤ a ∨ a = 158) → μ.1 a = μ0.1 a) ∧ (∀ k, k ≠ 19 → k ≠ 21 → (k < 22 ∨ 26 ≤ k) → k ≠ 30 → k ≠ 31 → μ.1 146 k = μ0.1 146 k) ∧ μ.2 = μ0.2
theorem frOd_rf (μ : sm_Mem) : FrOd μ μ := ⟨fun _ _ _ _ => rfl, fun _ _ _ _ _ _ => rfl, rfl⟩
theorem frOd_tr {μ μ1 μ2 : sm_Mem} (h : FrOd μ μ1) (h' : FrOd μ1 μ2) : FrOd μ μ2 := ⟨fun a p q r => (h'.1 a p q r).trans (h.1 a p q r), fun k p q r s t => (h'.2.1 k p q r s t).trans (h.2.1 k p q r s t), h'.2.2.trans h.2.2⟩
def BR (b : Option ((Nat × Nat) × List Nat)) (μ : sm_Mem) : Prop := match b with
  | none => μ.1 146 31 = mI 1 ∧ μ.1 146 30 = 0
  | some y => μ.1 146 31 = nI y.1.1 ∧ μ.1 146 30 = nI y.1.2 ∧ y.1.1 ≤ 10000 ∧ y.1.2 ≤ 10000 ∧ ∀ i, i < y.2.length → μ.1 160 i = nI (fnL y.2 i)
def RO (W : List Nat) (g : Nat → Nat) (b : Option ((Nat × Nat) × List Nat)) (d : Nat) (μ0 μ : sm_Mem) : Prop := μ.1 146 21 = nI d ∧ μ.1 146 27 = nI W.length ∧ CO W.length g μ ∧ BR b μ ∧ FrOd μ0 μ
/-- the row and what is held stand where these cells stand -/
theorem ro_fr {W : List Nat} {g : Nat → Nat} {b : Option ((Nat × Nat) × List Nat)} {d d' : Nat} {μ0 μ μ1 : sm_Mem} (h : RO W g b d μ0 μ) (h21 : μ1.1 146 21 = nI d') (h27 : μ1.1 146 27 = μ.1 146 27) (h30 : μ1.1 146 30 = μ.1 146 30) (h31 : μ1.1 146 31 = μ.1 146 31) (h159 : μ1.1 159 = μ.1 159) (h160 : μ1.1 160 = μ.1 160) (hf : FrOd μ μ1) : RO W g b d' μ0 μ1 := by
  obtain ⟨a1, a2, a3, a4, a5⟩ := h
  refine ⟨h21, h27.trans a2, fun i hi => by rw [h159]; exact a3 i hi, ?_, frOd_tr a5 hf⟩
  revert a4
  unfold BR
  rw [h30, h31, h160]
  exact id
theorem ord_le {w : Nat → Nat} {way : Nat} (hG : Good w) : ∀ (q : List Nat) (z : Nat → Nat) (m v : Nat), StO w z → (∀ u, u ∈ q → u < w 4) → (q.foldl (ordStep way) (z, m, v)).2.1 ≤ m + q.length ∧ (q.foldl (ordStep way) (z, m, v)).2.2 ≤ v + 198 * q.length := by
  intro q
  induction q with
  | nil => intro z m v _ _; exact ⟨Nat.le_refl _, Nat.le_refl _⟩
  | cons u q ih =>
    intro z m v h hq
    have hu := hq u (List.mem_cons_self ..)
    have e4 := h.1.1 4 (by omega)
    rw [List.foldl_cons, List.length_cons]
    have hs := step_sto (way := way) (m := m) (v := v) h.2.1 (show u < z 4 by omega)
    have key : (ordStep way (z, m, v) u).2.1 ≤ m + 1 ∧ (ordStep way (z, m, v) u).2.2 ≤ v + 198 := by
      unfold ordStep
      cases hg : goW z u way 98 with
      | none => exact ⟨Nat.le_add_right _ _, Nat.le_add_right _ _⟩
      | some x =>
        have := uSum3_le (k := 2) h.2.1 (show u < z 4 by omega) (by omega)
        show m + (if 0 < uSum z 3 u then 1 else 0) ≤ _ ∧ v + uSum z 2 u ≤ _
        constructor
        · split <;> omega
        · omega
    have := ih (ordStep way (z, m, v) u).1 (ordStep way (z, m, v) u).2.1 (ordStep way (z, m, v) u).2.2 (sto_tr h hs) (fun y hy => hq y (List.mem_cons_of_mem _ hy))
    have this : ((q.foldl (ordStep way) (ordStep way (z, m, v) u)).2.1 ≤ _ ∧ (q.foldl (ordStep way) (ordStep way (z, m, v) u)).2.2 ≤ _) := this
    omega
theorem lsF_s {n : Nat} {f : Nat → Nat} : lsF (n + 1) f = lsF n f ++ [f n] := by
  unfold lsF
  rw [List.range_succ, List.map_append]
  rfl
section
variable {w : Nat → Nat} {way : Nat} {W : List Nat} {g : Nat → Nat} {b : Option ((Nat × Nat) × List Nat)} {k40 : Nat → Int32 → Int32 → sm_M Unit} {Q : Unit → sm_Mem → Prop} {μ0 : sm_Mem}
noncomputable def oT (w : Nat → Nat) (way : Nat) (g : Nat → Nat) (t : Nat) : (Nat → Nat) × Nat × Nat := (lsF t g).foldl (ordStep way) (w, 0, 0)
theorem oT_s (t : Nat) : oT w way g (t + 1) = ordStep way (oT w way g t) (g t) := by
  unfold oT
  rw [lsF_s, List.foldl_append]
  rfl
theorem finds134 (hn : W.length ≤ 6) {m v : Nat} (hm : m ≤ 10000) (hv : v ≤ 10000) (ex : ∀ μ', WH 147 w μ' → RO W g (some ((m, v), lsF W.length g)) 0 μ0 μ' → T (fnX12_findsOrder_J160 k40 146 (nI way)) μ' Q) : ∀ (f t : Nat) (μ : sm_Mem), W.length - t < f → t ≤ W.length → WH 147 w μ → μ.1 146 21 = nI 0 → μ.1 146 27 = nI W.length → CO W.length g μ → μ.1 146 31 = nI m → μ.1 146 30 = nI v → (∀ i, i < t → μ.1 160 i = nI (g i)) → FrOd μ0 μ → T (fnX12_findsOrder_L134 k40 f 146 (nI way) (nI t)) μ Q := by
  have e_159 : 6 ≤ ln 159 := by decide
  have e_160 : 6 ≤ ln 160 := by decide
  intro f
  induction f with
  | zero => intro t μ h; omega
  | succ f ih =>
    intro t μ hf ht hW h21 h27 hC h31 h30 h160 hF
    unfold fnX12_findsOrder_L134
    rw [t_gi, h27]
    by_cases c : t = W.length
    · rw [t_brT (nI_le (by omega) (by omega))]
      refine ex μ hW ⟨h21, h27, hC, ⟨h31, h30, hm, hv, fun i hi => ?_⟩, hF⟩
      have hi : i < (lsF W.length g).length := hi
      rw [lsF_len] at hi
      show μ.1 160 i = nI (fnL (lsF W.length g) i)
      rw [lsF_at hi, h160 i (by omega)]
    · rw [t_brF (nI_ge (by omega) (by omega)), lk_146_28, lk_146_29, t_ai (by omega), t_sai (by omega), nI_1]
      refine ih (t + 1) _ (by omega) (by omega) (wh_fr (μ := μ) (fun i _ => (by simp (disch := omega) only [u2_ne, u2_a, u2_k, u2_at])) hW) (by rw [← h21]; simp (disch := omega) only [u2_ne, u2_a, u2_k, u2_at]) (by rw [← h27]; simp (disch := omega) only [u2_ne, u2_a, u2_k, u2_at]) (fun i hi => by rw [← hC i hi]; simp (disch := omega) only [u2_ne, u2_a, u2_k, u2_at]) (by rw [← h31]; simp (disch := omega) only [u2_ne, u2_a, u2_k, u2_at]) (by rw [← h30]; simp (disch := omega) only [u2_ne, u2_a, u2_k, u2_at]) (fun i hi => ?_) ?_
      · show u2 μ.1 160 t (μ.1 159 t) 160 i = _
        by_cases d : i = t
        · rw [d, u2_at, hC t (by omega)]
        · rw [u2_k d, h160 i (by omega)]
      · refine frOd_tr hF ⟨fun a q1 q2 q3 => ?_, fun k _ _ _ _ _ => ?_, rfl⟩
        · show u2 μ.1 160 t (μ.1 159 t) a = _
          rw [u2_ne (show a ≠ 160 by omega)]
        · show u2 μ.1 160 t (μ.1 159 t) 146 k = _
          rw [u2_ne (show 146 ≠ 160 by omega)]
theorem finds116 (hn : W.length ≤ 6) {m v : Nat} (hm : m ≤ 10000) (hv : v ≤ 10000) (ex : ∀ μ', WH 147 w μ' → RO W g (some ((m, v), lsF W.length g)) 0 μ0 μ' → T (fnX12_findsOrder_J160 k40 146 (nI way)) μ' Q) {μ : sm_Mem} (hW : WH 147 w μ) (h : RO W g b 0 μ0 μ) (h25 : μ.1 146 25 = nI m) (h23 : μ.1 146 23 = nI v) : T (fnX12_findsOrder_J116 k40 146 (nI way)) μ Q := by
  obtain ⟨a1, a2, a3, a4, a5⟩ := h
  unfold fnX12_findsOrder_J116
  rw [t_gi, h25, t_si, t_gi, t_si]
  have H : ∀ μ1 : sm_Mem, μ1.1 146 31 = nI m → μ1.1 146 30 = nI v → (∀ k, k ≠ 30 → k ≠ 31 → μ1.1 146 k = μ.1 146 k) → (∀ a, a ≠ 146 → μ1.1 a = μ.1 a) → μ1.2 = μ.2 → T (fnX12_findsOrder_L134 k40 4096 146 (nI way) (0 : Int32)) μ1 Q := by
    intro μ1 b1 b2 b3 b4 b5
    refine finds134 hn hm hv ex 4096 0 μ1 (by omega) (by omega) (wh_fr (fun i _ => by rw [b4 147 (by omega)]) hW) (by rw [b3 21 (by omega) (by omega)]; exact a1) (by rw [b3 27 (by omega) (by omega)]; exact a2) (fun i hi => by rw [b4 159 (by omega)]; exact a3 i hi) b1 b2 (fun i hi => by omega) (frOd_tr a5 ⟨fun a q1 _ _ => b4 a q1, fun k _ _ _ q4 q5 => b3 k q4 q5, b5⟩)
  refine H _ (by simp (disch := omega) only [u2_ne, u2_a, u2_k, u2_at]) ?_ (fun k q1 q2 => (by simp (disch := omega) only [u2_ne, u2_a, u2_k, u2_at])) (fun a ha => (by simp (disch := omega) only [u2_ne, u2_a, u2_k, u2_at])) rfl
  rw [← h23]
  simp (disch := omega) only [u2_ne, u2_a, u2_k, u2_at]
theorem finds79 (hn : W.length ≤ 6) {m v : Nat} (hm : m ≤ 10000) (hv : v ≤ 10000) (eo : ordOut w way (lsF W.length g) = (m, v)) (ex : ∀ μ', WH 147 w μ' → RO W g (ordPick w way b (lsF W.length g)) 0 μ0 μ' → T (fnX12_findsOrder_J160 k40 146 (nI way)) μ' Q) {μ : sm_Mem} (hW : ∀ i, i < 241 → μ.1 157 i = eI i (w i)) (h : RO W g b 1 μ0 μ) (h25 : μ.1 146 25 = nI m) (h23 : μ.1 146 23 = nI v) : T (fnX12_findsOrder_J79 k40 146 (nI way)) μ Q := by
  unfold fnX12_findsOrder_J79
  rw [t_bnd]
  refine t_mono (wakes_T h.1) ?_
  rintro _ μ1 ⟨a1, a2, a3, a4, a5⟩
  have W1 : WH 147 w μ1 := fun i hi => by rw [a1 i hi]; exact hW i hi
  have R1 : RO W g b 0 μ0 μ1 := ro_fr h a2 (a3 27 (by omega)) (a3 30 (by omega)) (a3 31 (by omega)) (a4 159 (by omega) (by omega)) (a4 160 (by omega) (by omega)) ⟨fun a q1 q2 _ => a4 a q2 q1, fun k _ q _ _ _ => a3 k q, a5⟩
  have h25 : μ1.1 146 25 = nI m := by rw [a3 25 (by omega)]; exact h25
  have h23 : μ1.1 146 23 = nI v := by rw [a3 23 (by omega)]; exact h23
  have yes : bBt b (m, v) = true → T (fnX12_findsOrder_J116 k40 146 (nI way)) μ1 Q := by
    intro hb
    have ep : ordPick w way b (lsF W.length g) = some ((m, v), lsF W.length g) := by
      unfold ordPick
      cases b with
      | none =>
        show some (ordOut w way (lsF W.length g), lsF W.length g) = _
        rw [eo]
      | some y =>
        show (if better (ordOut w way (lsF W.length g)) y.1 = true then _ else _) = _
        rw [eo, if_pos (show better (m, v) y.1 = true from hb)]
    rw [ep] at ex
    exact finds116 hn hm hv ex W1 R1 h25 h23
  have no : bBt b (m, v) = false → T (fnX12_findsOrder_J160 k40 146 (nI way)) μ1 Q := by
    intro hb
    rw [pick_no] at ex
    · exact ex μ1 W1 R1
    · rw [eo]
      cases b with
      | none => cases hb
      | some y => exact ⟨y, rfl, hb⟩
  rw [t_gi, h25, t_gi]
  cases b with
  | none =>
    obtain ⟨b1, b2⟩ := R1.2.2.2.1
    have : μ1.1 146 31 < nI m := by
      rw [b1, Int32.lt_iff_toInt_lt, nI_toInt (by omega)]
      have : (mI 1).toInt = -1 := by decide
      omega
    rw [t_brT this]
    exact yes rfl
  | some y =>
    obtain ⟨b1, b2, b3, b4, _⟩ := R1.2.2.2.1
    have eb : bBt (some y) (m, v) = better (m, v) y.1 := rfl
    rw [eb] at yes no
    unfold better at yes no
    rw [b1]
    by_cases c1 : y.1.1 < m
    · rw [t_brT (nI_lt c1 (by omega))]
      exact yes (decide_eq_true (Or.inl c1))
    · rw [t_brF (nI_nlt (by omega) (by omega)), t_gi, h25, t_gi, b1]
      by_cases c2 : m = y.1.1
      · rw [t_brT (by rw [c2]), t_gi, h23, t_gi, b2]
        by_cases c3 : v ≤ y.1.2
        · rw [t_brT (nI_le c3 (by omega))]
          exact no (decide_eq_false (by rintro (z | z) <;> omega))
        · rw [t_brF (nI_ge (by omega) (by omega))]
          exact yes (decide_eq_true (Or.inr ⟨c2, show y.1.2 < v by omega⟩))
      · rw [t_brF (fun z => c2 ((nI_eq (by omega) (by omega)).mp z))]
        exact no (decide_eq_false (by rintro (z | z) <;> omega))
theorem finds54 (hG : Good w) (hw : way < 4) (hn : W.length ≤ 6) (hP : PO W g) (hU : ∀ u, u ∈ W → u < w 4) (ex : ∀ μ', WH 147 w μ' → RO W g (ordPick w way b (lsF W.length g)) 0 μ0 μ' → T (fnX12_findsOrder_J160 k40 146 (nI way)) μ' Q) : ∀ (f t : Nat) (μ : sm_Mem), W.length - t < f → t ≤ W.length → WH 147 (oT w way g t).1 μ → (∀ i, i < 241 → μ.1 157 i = eI i (w i)) → RO W g b 1 μ0 μ → μ.1 146 25 = nI (oT w way g t).2.1 → μ.1 146 23 = nI (oT w way g t).2.2 → T (fnX12_findsOrder_L54 k40 f 146 (nI way) (nI t)) μ Q := by
  have e_159 : 6 ≤ ln 159 := by decide
  have n := hG.1
  have mem : ∀ t, t ≤ W.length → ∀ u, u ∈ lsF t g → u < w 4 := by
    intro t ht u hu
    unfold lsF at hu
    obtain ⟨i, hi, rfl⟩ := List.mem_map.mp hu
    rw [List.mem_range] at hi
    exact hU _ (hP.1 i (by omega))
  have hst : ∀ t, t ≤ W.length → StO w (oT w way g t).1 := by
    intro t
    induction t with
    | zero => intro _; exact sto_rf hG
    | succ t iht =>
      intro ht
      have h1 := iht (by omega)
      rw [oT_s]
      have e4 := h1.1.1 4 (by omega)
      have hu := hU _ (hP.1 t (by omega))
      exact sto_tr h1 (step_sto h1.2.1 (by omega))
  intro f
  induction f with
  | zero => intro t μ h; omega
  | succ f ih =>
    intro t μ hf ht hW h157 hR h25 h23
    unfold fnX12_findsOrder_L54
    rw [t_gi, hR.2.1]
    by_cases c : t = W.length
    · subst c
      rw [t_brT (nI_le (Nat.le_refl _) (by omega))]
      have bd := ord_le (way := way) hG (lsF W.length g) w 0 0 (sto_rf hG) (mem _ (Nat.le_refl _))
      rw [lsF_len] at bd
      have bd : (oT w way g W.length).2.1 ≤ 0 + W.length ∧ (oT w way g W.length).2.2 ≤ 0 + 198 * W.length := bd
      exact finds79 hn (show (oT w way g W.length).2.1 ≤ 10000 by omega) (show (oT w way g W.length).2.2 ≤ 10000 by omega) rfl ex h157 hR h25 h23
    · have h1 := hst t ht
      have e4 := h1.1.1 4 (by omega)
      have hu := hU _ (hP.1 t (by omega))
      rw [t_brF (nI_ge (by omega) (by omega)), lk_146_28, t_ai (by omega), hR.2.2.1 t (by omega), t_bnd]
      refine t_mono (goesOver_T hW h1.2.1 (u := g t) (by omega) hw) ?_
      rintro _ μ1 ⟨d1, d2, d3, d4⟩
      rw [nI_1]
      have R1 : RO W g b 1 μ0 μ1 := ro_fr hR ((d2 21 (by omega) (by omega)).trans hR.1) (d2 27 (by omega) (by omega)) (d2 30 (by omega) (by omega)) (d2 31 (by omega) (by omega)) (d3 159 (by omega) (by omega) (by omega)) (d3 160 (by omega) (by omega) (by omega)) ⟨fun a q1 q2 q3 => d3 a q1 q2 (by omega), fun k q1 _ q3 _ _ => d2 k q1 q3, d4⟩
      have h157' : ∀ i, i < 241 → μ1.1 157 i = eI i (w i) := fun i hi => by
        rw [d3 157 (by omega) (by omega) (by omega)]
        exact h157 i hi
      have os := oT_s (w := w) (way := way) (g := g) t
      cases hg : goW (oT w way g t).1 (g t) way 98 with
      | none =>
        rw [hg] at d1
        have e : oT w way g (t + 1) = oT w way g t := by
          rw [os]
          unfold ordStep
          rw [hg]
        refine ih (t + 1) μ1 (by omega) (by omega) (by rw [e]; exact d1.1) h157' R1 (by rw [e, d1.2 25 (by omega)]; exact h25) (by rw [e, d1.2 23 (by omega)]; exact h23)
      | some x =>
        rw [hg] at d1
        obtain ⟨g1, g2, g3, g4, g5, g6, g7, g8⟩ := d1
        have e : oT w way g (t + 1) = (x.1, (oT w way g t).2.1 + (if 0 < uSum (oT w way g t).1 3 (g t) then 1 else 0), (oT w way g t).2.2 + uSum (oT w way g t).1 2 (g t)) := by
          rw [os]
          unfold ordStep
          rw [hg]
        refine ih (t + 1) μ1 (by omega) (by omega) (by rw [e]; exact g1) h157' R1 (by rw [e, g8, h25, nI_add]) (by rw [e, g6, h23, nI_add])
end
