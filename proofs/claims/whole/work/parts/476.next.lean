/-! ===== ORDERS: the reference's next order ===== -/
/-- the current order -/
def CO (n : Nat) (g : Nat → Nat) (μ : sm_Mem) : Prop := ∀ i, i < n → μ.1 159 i = nI (g i)
def FrNx (μ μ' : sm_Mem) : Prop := (∀ a, a ≠ 159 → μ'.1 a = μ.1 a) ∧ μ'.2 = μ.2
def swF (i j : Nat) (g : Nat → Nat) : Nat → Nat := fun k => if k = i then g j else if k = j then g i else g k
theorem swaps_T {n i j : Nat} {g : Nat → Nat} {μ : sm_Mem} (hn : n ≤ ln 159) (hi : i < n) (hj : j < n) (h : CO n g μ) : T (fnX12_swaps 146 (nI i) (nI j)) μ (fun _ μ' => CO n (swF i j g) μ' ∧ FrNx μ μ') := by
  unfold fnX12_swaps
  rw [lk_146_28, t_ai (by omega), t_ai (by omega), t_sai (by omega), t_sai (by omega), t_ret]
  refine ⟨fun k hk => ?_, fun a ha => ?_, rfl⟩
  · show u2 (u2 μ.1 159 i (μ.1 159 j)) 159 j (μ.1 159 i) 159 k = _
    unfold swF
    by_cases c : k = j
    · rw [c, u2_at]
      by_cases d : j = i
      · rw [if_pos d, ← d, h j hj]
      · rw [if_neg d, if_pos rfl, h i hi]
    · rw [u2_k c, if_neg c]
      by_cases d : k = i
      · rw [d, u2_at, if_pos rfl, h j hj]
      · rw [u2_k d, if_neg d, h k hk]
  · show u2 (u2 μ.1 159 i (μ.1 159 j)) 159 j (μ.1 159 i) a = _
    rw [u2_ne ha, u2_ne ha]
/-- turned round between lo and hi, t steps far -/
def rvF (lo hi t : Nat) (g : Nat → Nat) : Nat → Nat := fun k => if (lo ≤ k ∧ k < lo + t) ∨ (hi < k + t ∧ k ≤ hi) then g (lo + hi - k) else g k
theorem nI_dn {j : Nat} (h : 1 ≤ j) : nI j + (-1 : Int32) = nI (j - 1) := by
  have : nI j = nI (j - 1) + nI 1 := by
    rw [nI_add]
    congr 1
    omega
  rw [this, Int32.add_assoc]
  show nI (j - 1) + 0 = _
  rw [Int32.add_zero]
theorem rev_L {n lo hi : Nat} {g : Nat → Nat} (hn : n ≤ ln 159) (hn6 : n ≤ 6) (hlo : 1 ≤ lo) (hh : lo ≤ hi) (hhn : hi < n) {μ0 : sm_Mem} : ∀ (f t : Nat) (μ : sm_Mem), hi < f + t → lo + t ≤ hi - t + 1 → t ≤ hi → CO n (rvF lo hi t g) μ → FrNx μ0 μ → T (fnX12_nextOrder_L86 f 146 (nI (lo + t)) (nI (hi - t))) μ (fun r μ' => r = true ∧ CO n (fun k => if lo ≤ k ∧ k ≤ hi then g (lo + hi - k) else g k) μ' ∧ FrNx μ0 μ') := by
  intro f
  induction f with
  | zero => intro t μ h1 h2 h3; omega
  | succ f ih =>
    intro t μ h1 h2 h3 hC hF
    unfold fnX12_nextOrder_L86
    by_cases c : hi - t ≤ lo + t
    · rw [t_brT (nI_le c (by omega)), t_ret]
      refine ⟨rfl, fun k hk => ?_, hF⟩
      rw [hC k hk]
      show nI (rvF lo hi t g k) = nI (if lo ≤ k ∧ k ≤ hi then g (lo + hi - k) else g k)
      unfold rvF
      by_cases d : lo ≤ k ∧ k ≤ hi
      · rw [if_pos d]
        by_cases e : (lo ≤ k ∧ k < lo + t) ∨ (hi < k + t ∧ k ≤ hi)
        · rw [if_pos e]
        · rw [if_neg e, show lo + hi - k = k by omega]
      · rw [if_neg d, if_neg (by omega)]
    · rw [t_brF (nI_ge (by omega) (by omega)), t_bnd]
      refine t_mono (swaps_T hn (show lo + t < n by omega) (show hi - t < n by omega) hC) ?_
      rintro _ μ1 ⟨c1, c2⟩
      rw [nI_1, nI_dn (by omega)]
      have := ih (t + 1) μ1 (by omega) (by omega) (by omega) (fun k hk => ?_) ⟨fun a ha => (c2.1 a ha).trans (hF.1 a ha), c2.2.trans hF.2⟩
      · rw [show lo + (t + 1) = lo + t + 1 by omega, show hi - (t + 1) = hi - t - 1 by omega] at this
        exact this
      · rw [c1 k hk]
        unfold swF rvF
        by_cases d1 : k = lo + t
        · rw [if_pos d1, if_neg (by omega), if_pos (by omega), show lo + hi - k = hi - t by omega]
        · rw [if_neg d1]
          by_cases d2 : k = hi - t
          · rw [if_pos d2, if_neg (by omega), if_pos (by omega), show lo + hi - k = lo + t by omega]
          · rw [if_neg d2]
            by_cases d3 : (lo ≤ k ∧ k < lo + t) ∨ (hi < k + t ∧ k ≤ hi)
            · rw [if_pos d3, if_pos (by omega)]
            · rw [if_neg d3, if_neg (by omega)]
def NxP (W : List Nat) (g : Nat → Nat) (μ0 : sm_Mem) (r : Bool) (μ : sm_Mem) : Prop := FrNx μ0 μ ∧ ((r = true ∧ ∃ g', CO W.length g' μ ∧ PO W g' ∧ lxG W.length g g' ∧ ∀ q, PO W q → lxG W.length g q → (∀ k, k < W.length → g' k = q k) ∨ lxG W.length g' q) ∨ (r = false ∧ ∀ q, PO W q → ¬ lxG W.length g q))
section
variable {W : List Nat} {g : Nat → Nat} {μ : sm_Mem}
theorem next68 (hn6 : W.length ≤ 6) (hP : PO W g) (hC : CO W.length g μ) (h27 : μ.1 146 27 = nI W.length) {i j : Nat} (hij : i < j) (hj : j < W.length) (hg : g i < g j) (hd : ∀ k, i + 1 ≤ k → k + 1 < W.length → g (k + 1) < g k) (hb : ∀ k, j < k → k < W.length → g k < g i) : T (fnX12_nextOrder_J68 146 (nI i) (nI j)) μ (fun r μ' => NxP W g μ r μ') := by
  have e_159 : 6 ≤ ln 159 := by decide
  unfold fnX12_nextOrder_J68
  rw [t_bnd]
  refine t_mono (swaps_T (by omega) (show i < W.length by omega) hj hC) ?_
  rintro _ μ1 ⟨c1, c2⟩
  rw [nI_1, t_nm, t_gi, c2.1 146 (by omega), h27, li_1, pk_sub (by omega), t_nm]
  refine t_mono (rev_L (lo := i + 1) (hi := W.length - 1) (g := swF i j g) (by omega) hn6 (by omega) (by omega) (by omega) (μ0 := μ) 4096 0 μ1 (by omega) (by omega) (by omega) (fun k hk => ?_) c2) ?_
  · rw [c1 k hk]
    unfold rvF
    rw [if_neg (by omega)]
  · rintro r μ2 ⟨rfl, d1, d2⟩
    refine ⟨d2, Or.inl ⟨rfl, nxt W.length i j g, fun k hk => ?_, nxt_PO hP hij hj, nxt_lx hP hij hj hg, fun q hq hl => nxt_least hP hij hj hg hd hb hq hl⟩⟩
    rw [d1 k hk]
    show nI (if i + 1 ≤ k ∧ k ≤ W.length - 1 then swF i j g (i + 1 + (W.length - 1) - k) else swF i j g k) = nI (nxt W.length i j g k)
    unfold nxt swF
    by_cases e1 : k < i
    · rw [if_pos e1, if_neg (show ¬ (i + 1 ≤ k ∧ k ≤ W.length - 1) by omega), if_neg (show ¬ k = i by omega), if_neg (show ¬ k = j by omega)]
    · by_cases e2 : k = i
      · rw [if_neg (show ¬ (i + 1 ≤ k ∧ k ≤ W.length - 1) by omega), if_pos e2, if_neg e1, if_pos e2]
      · rw [if_pos (show i + 1 ≤ k ∧ k ≤ W.length - 1 by omega), if_neg (show ¬ i + 1 + (W.length - 1) - k = i by omega), if_neg e1, if_neg e2, show i + 1 + (W.length - 1) - k = W.length + i - k by omega]
theorem next47 (hn6 : W.length ≤ 6) (hv : ∀ i, i < W.length → g i < 1000) (hP : PO W g) (hC : CO W.length g μ) (h27 : μ.1 146 27 = nI W.length) {i : Nat} (hi : i + 1 < W.length) (hg : g i < g (i + 1)) (hd : ∀ k, i + 1 ≤ k → k + 1 < W.length → g (k + 1) < g k) : ∀ (f j : Nat), j < f + i → i < j → j < W.length → (∀ k, j < k → k < W.length → g k < g i) → T (fnX12_nextOrder_L47 f 146 (nI i) (nI j)) μ (fun r μ' => NxP W g μ r μ') := by
  have e_159 : 6 ≤ ln 159 := by decide
  intro f
  induction f with
  | zero => intro j h; omega
  | succ f ih =>
    intro j hf hij hj hb
    have v1 := hv i (by omega)
    have v2 := hv j hj
    unfold fnX12_nextOrder_L47
    rw [lk_146_28, t_ai (by omega), t_ai (by omega), hC j hj, hC i (by omega)]
    by_cases c : g i ≤ g j
    · have : g i ≠ g j := fun z => by
        have := hP.2.1 i j (by omega) hj z
        omega
      rw [t_brT (nI_le c (by omega))]
      exact next68 hn6 hP hC h27 hij hj (by omega) hd hb
    · have : j ≠ i + 1 := fun z => by
        rw [z] at c
        omega
      rw [t_brF (nI_ge (by omega) (by omega)), nI_dn (by omega)]
      refine ih (j - 1) (by omega) (by omega) (by omega) (fun k h1 h2 => ?_)
      by_cases e : k = j
      · rw [e]
        omega
      · exact hb k (by omega) h2
theorem next7 (hn6 : W.length ≤ 6) (hv : ∀ i, i < W.length → g i < 1000) (hP : PO W g) (hC : CO W.length g μ) (h27 : μ.1 146 27 = nI W.length) : ∀ (f k : Nat), k < f → k + 1 ≤ W.length → (∀ t, k ≤ t → t + 1 < W.length → g (t + 1) < g t) → T (fnX12_nextOrder_L7 f 146 (nI k - nI 1)) μ (fun r μ' => NxP W g μ r μ') := by
  have e_159 : 6 ≤ ln 159 := by decide
  intro f
  induction f with
  | zero => intro k h; omega
  | succ f ih =>
    intro k hf hk hd
    unfold fnX12_nextOrder_L7
    by_cases c : k = 0
    · subst c
      rw [t_brT (by decide)]
      unfold fnX12_nextOrder_J34
      rw [t_brF (by decide), t_ret]
      exact ⟨⟨fun _ _ => rfl, rfl⟩, Or.inr ⟨rfl, fun q hq => no_next hP (fun t ht => hd t (by omega) ht) hq⟩⟩
    · have v1 := hv (k - 1) (by omega)
      have v2 := hv k (by omega)
      rw [pk_sub (by omega), t_brF (nI_pos (by omega)), lk_146_28, t_ai (by omega), nI_1, show k - 1 + 1 = k by omega, t_ai (by omega), hC (k - 1) (by omega), hC k (by omega)]
      by_cases d : g (k - 1) ≤ g k
      · have : g (k - 1) ≠ g k := fun z => by
          have := hP.2.1 (k - 1) k (by omega) (by omega) z
          omega
        rw [t_brT (nI_le d (by omega))]
        unfold fnX12_nextOrder_J34
        rw [t_brT (nI_pos' (by omega)), t_gi, h27, li_1, pk_sub (by omega), t_nm]
        refine next47 hn6 hv hP hC h27 (i := k - 1) (by omega) (by rw [show k - 1 + 1 = k by omega]; omega) (fun t h1 h2 => hd t (by omega) h2) 4096 (W.length - 1) (by omega) (by omega) (by omega) (fun t h1 h2 => by omega)
      · rw [t_brF (nI_ge (by omega) (by omega))]
        have e : nI (k - 1) + (-1 : Int32) = nI (k - 1) - nI 1 := by
          rw [Int32.sub_eq_add_neg, show (-(nI 1) : Int32) = -1 by decide]
        rw [e]
        refine ih (k - 1) (by omega) (by omega) (fun t h1 h2 => ?_)
        by_cases q : t = k - 1
        · rw [q, show k - 1 + 1 = k by omega]
          omega
        · exact hd t (by omega) h2
theorem next_T (hn6 : W.length ≤ 6) (hv : ∀ i, i < W.length → g i < 1000) (hP : PO W g) (hC : CO W.length g μ) (h27 : μ.1 146 27 = nI W.length) : T (fnX12_nextOrder 146) μ (fun r μ' => NxP W g μ r μ') := by
  unfold fnX12_nextOrder
  rw [t_gi, h27, t_nm]
  by_cases c : W.length = 0
  · rw [c]
    unfold fnX12_nextOrder_L7
    rw [t_brT (by decide)]
    unfold fnX12_nextOrder_J34
    rw [t_brF (by decide), t_ret]
    exact ⟨⟨fun _ _ => rfl, rfl⟩, Or.inr ⟨rfl, fun q hq ⟨d, d1, _⟩ => by omega⟩⟩
  · have e : nI W.length - (2 : Int32) = nI (W.length - 1) - nI 1 := by
      by_cases d : W.length = 1
      · rw [d]
        decide
      · rw [li_2, pk_sub (by omega), pk_sub (by omega), show W.length - 1 - 1 = W.length - 2 by omega]
    rw [e]
    exact next7 hn6 hv hP hC h27 4096 (W.length - 1) (by omega) (by omega) (fun t h1 h2 => by omega)
end
