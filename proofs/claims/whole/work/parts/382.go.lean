/-! ===== A UNIT GOES ===== -/
theorem same_put {w : Nat → Nat} {u b : Nat} : Same w (putW w u b) := by
  unfold putW
  split
  · exact same_up (Or.inr (Or.inr (Or.inr ⟨u, rfl⟩)))
  · exact same_tr (same_up (Or.inr (Or.inr (Or.inr ⟨u, rfl⟩)))) (same_up (Or.inr (Or.inr (Or.inr ⟨_, rfl⟩))))
theorem put_o {w : Nat → Nat} {u b i : Nat} (hi : ∀ p, i ≠ 191 + 7 * p) : putW w u b i = w i := by
  unfold putW
  split
  · exact up_ne (hi u)
  · rw [up_ne (hi _), up_ne (hi u)]
theorem good_put {w : Nat → Nat} (hG : Good w) {u b : Nat} (hb : b = 98 ∨ b = 99) : Good (putW w u b) := by
  have n := hG.1
  refine same_good same_put hG ?_ ?_ ?_ ?_
  · rw [put_o (fun p => by omega)]
    omega
  · intro s hs
    have g := hG.2.2.2.1 s hs
    rw [put_o (fun p => by omega), put_o (fun p => by omega)]
    omega
  · intro s h1 h2
    rw [put_o (fun p => by omega)]
    exact hG.2.2.2.2.1 s h1 h2
  · intro p hp
    have g := hG.2.2.2.2.2.2.2.2.2 p hp
    unfold putW
    split
    · by_cases e : p = u
      · subst e
        rw [up_at]
        omega
      · rw [up_ne (by omega)]
        exact g
    · by_cases e : p = w (190 + 7 * u) - 1
      · rw [e, up_at]
        omega
      · rw [up_ne (by omega)]
        by_cases e2 : p = u
        · subst e2
          rw [up_at]
          omega
        · rw [up_ne (by omega)]
          exact g
theorem settle9 {c b : Nat} {w : Nat → Nat} {μ : sm_Mem} (hc : isSc c) (hR : RH 14 w μ) (hS : SH c w μ) (hG : Good w) {u : Nat} (hu : u < w 4) : T (fnX9_settle c (nI u) (nI b)) μ (fun _ μ' => SH c (putW w u b) μ' ∧ (∀ a, a ≠ c + 3 → μ'.1 a = μ.1 a) ∧ μ'.2 = μ.2) := by
  obtain ⟨k0, k2, k3, k4, l1, l2, l3⟩ := sc_lk hc
  have n := hG.1
  have hh := hand14 hR hu
  have e_23 : ln 23 = 8 := rfl
  have hcc : 23 ≠ c + 3 := by
    unfold isSc at hc
    simp only [List.mem_cons, List.not_mem_nil, or_false] at hc
    omega
  unfold fnX9_settle putW
  rw [k4, k0, lk_14_16, t_sai (by omega), t_ai (by omega)]
  have y : (u2 μ.1 (c + 3) u (nI b), μ.2).1 23 u = nI (w (190 + 7 * u)) - nI 1 := by
    rw [← hh]
    simp (disch := omega) only [u2_ne, u2_a, u2_k, u2_at]
  rw [y]
  rcases hand_cases hG hu with q | ⟨q1, q2, q3, q4⟩
  · rw [t_brT ((hd_mm (by omega)).mpr q), t_ret, if_pos q]
    exact ⟨sh_up191 n.1 hS, fun a ha => (by simp (disch := omega) only [u2_ne, u2_a, u2_k, u2_at]), rfl⟩
  · rw [t_brF (fun z => q1 ((hd_mm (by omega)).mp z)), t_ai (by omega), y, hd_q q1, t_sai (by omega), t_ret, if_neg q1]
    exact ⟨sh_up191 (by rw [up_ne (by omega)]; exact n.1) (sh_up191 n.1 hS), fun a ha => (by simp (disch := omega) only [u2_ne, u2_a, u2_k, u2_at]), rfl⟩
theorem puts12 {b : Nat} {w : Nat → Nat} {μ : sm_Mem} (hW : WH 147 w μ) (hG : Good w) {u : Nat} (hu : u < w 4) : T (fnX12_puts 146 (nI u) (nI b)) μ (fun _ μ' => WH 147 (putW w u b) μ' ∧ (∀ a, a ≠ 147 → μ'.1 a = μ.1 a) ∧ μ'.2 = μ.2) := by
  have n := hG.1
  have x : ∀ p, eI (191 + 7 * p) b = nI b := by
    intro p
    unfold eI
    rw [if_neg (by omega)]
  have hW1 : WH 147 (up w (191 + 7 * u) b) (u2 μ.1 147 (191 + 7 * u) (nI b), μ.2) := wh_up hW (x u).symm
  have sec : fnX12_second 146 (nI u) (u2 μ.1 147 (191 + 7 * u) (nI b), μ.2) = some (nI (w (190 + 7 * u)) - 1, (u2 μ.1 147 (191 + 7 * u) (nI b), μ.2)) := by
    have := ofH_eq hW1 (p := u) (by omega)
    rw [up_ne (by omega)] at this
    unfold fnX12_second
    simp only [m_bnd, this, m_ret]
  unfold fnX12_puts putW
  rw [t_bnd, li_6, set_T (by omega) (by omega), show 185 + 7 * u + 6 = 191 + 7 * u by omega, t_bnd, t_eq sec]
  rcases hand_cases hG hu with q | ⟨q1, q2, q3, q4⟩
  · rw [t_brT ((hd_m1 (by omega)).mpr q), t_ret, if_pos q]
    exact ⟨hW1, fun a ha => (by simp (disch := omega) only [u2_ne, u2_a, u2_k, u2_at]), rfl⟩
  · rw [t_brF (fun z => q1 ((hd_m1 (by omega)).mp z)), t_bnd, t_eq sec, hd_q' q1, t_bnd, set_T (by omega) (by omega), t_ret, if_neg q1, show 185 + 7 * (w (190 + 7 * u) - 1) + 6 = 191 + 7 * (w (190 + 7 * u) - 1) by omega]
    exact ⟨wh_up hW1 (x _).symm, fun a ha => (by simp (disch := omega) only [u2_ne, u2_a, u2_k, u2_at]), rfl⟩
/-- what a sending leaves, on the component's side -/
def SendP (c : Nat) (w : Nat → Nat) (u way bank : Nat) (x : Int32) (μ μ' : sm_Mem) : Prop := (match goW w u way bank with
    | none => x = mI 1 ∧ SH c w μ'
    | some z => x = nI z.2 ∧ z.2 ≤ 24 ∧ SH c z.1 μ' ∧ Same w z.1 ∧ Good z.1) ∧ (∀ a, (a < 36 ∨ 41 ≤ a) → (a < c ∨ c + 4 ≤ a) → μ'.1 a = μ.1 a) ∧ μ'.2 = μ.2
theorem send_J26 {c : Nat} {w : Nat → Nat} {μ : sm_Mem} (hc : isSc c) (hR : RH 14 w μ) (hS : SH c w μ) (hL : LKS w μ) (hG : Good w) {u way : Nat} (hu : u < w 4) (hw : way < 4) (hl : lead w u = true) (b : Bool) (hb : uAt w u (if b = true then 98 else 99) = true) : T (fnX0_send_J26 41 c (nI u) (nI way) (bI b)) μ (fun x μ' => SendP c w u way (if b = true then 98 else 99) x μ μ') := by
  obtain ⟨k0, -, -, -, -, -, -⟩ := sc_lk hc
  have n := hG.1
  have hcc : c + 4 ≤ 36 ∨ 41 ≤ c := by
    unfold isSc at hc
    simp only [List.mem_cons, List.not_mem_nil, or_false] at hc
    omega
  have hcr : c + 4 ≤ 14 ∨ 24 ≤ c := by
    unfold isSc at hc
    simp only [List.mem_cons, List.not_mem_nil, or_false] at hc
    omega
  obtain ⟨s1, s2⟩ := uStr_rng hG hu
  obtain ⟨t1, t2⟩ := uWt_rng hG hu
  unfold fnX0_send_J26
  rw [k0, t_bnd, t_eq (weightOf7 hR hG hu), t_bnd, t_eq (strideOf7 hR hG hu), lk_41_0]
  have J : ∀ (bank : Nat), bank = (if b = true then 98 else 99) → T (fnX0_send_J64 41 c (nI u) (bI b) (nI (uSum w 1 u)) (nI bank) (nI way) (nI (uSum w 1 u)) (nI (uStr w u)) c 36) μ (fun x μ' => SendP c w u way bank x μ μ') := by
    intro bank hbank
    have hb98 : bank = 98 ∨ bank = 99 := by
      rw [hbank]
      split
      · exact Or.inl rfl
      · exact Or.inr rfl
    unfold fnX0_send_J64
    rw [t_bnd]
    refine t_mono (seek_T hc hG s1 s2 (by omega) hw hb98 hR hS hL) ?_
    rintro x μ1 ⟨a1, a2, a3⟩
    have hat : lead w u = true ∧ uAt w u bank = true := ⟨hl, by rw [hbank]; exact hb⟩
    have gw : goW w u way bank = (match findW w (uStr w u) (uSum w 1 u) way bank with | none => none | some l => some (putW (wearW w l (uSum w 1 u)) u (197 - bank), l.length)) := by
      unfold goW
      rw [if_pos hat]
      cases findW w (uStr w u) (uSum w 1 u) way bank <;> rfl
    have hS1 : SH c w μ1 := sh_fr (fun a q1 q2 => a2 a (by omega)) hS
    cases hf : findW w (uStr w u) (uSum w 1 u) way bank with
    | none =>
      rw [hf] at a1 gw
      have a1 : x = mI 1 := a1
      subst a1
      rw [t_brT mI_lt0, t_ret]
      refine ⟨?_, fun a h1 _ => a2 a h1, a3⟩
      rw [gw]
      exact ⟨rfl, hS1⟩
    | some l =>
      rw [hf] at a1 gw
      obtain ⟨b1, b2, b3, b4, b5, b6⟩ := a1
      subst b1
      obtain ⟨ws, wg⟩ := good_wear hG t1 b5 b6
      rw [t_brF (nI_pos (by omega)), lk_41_0, t_bnd]
      refine t_mono (wear10_T (wt := uSum w 1 u) hc hG (fun x hx => (b5 x hx).1) b2 hS1 b3 b4) ?_
      rintro - μ2 ⟨c1, c2, c3⟩
      have hR2 : RH 14 (wearW w l (uSum w 1 u)) μ2 := same_rh ws hG (rh_fr (μ := μ) (fun a q1 q2 => (c2 a (by omega)).trans (a2 a (by omega))) hR)
      have w4 := ws.1 4 (by omega)
      have J98 : ∀ to : Nat, to = 197 - bank → T (fnX0_send_J98 (nI l.length) (nI to) (nI u) c) μ2 (fun x μ' => SendP c w u way bank x μ μ') := by
        intro to hto
        subst hto
        unfold fnX0_send_J98
        rw [t_bnd]
        refine t_mono (settle9 (b := 197 - bank) hc hR2 c1 wg (by omega)) ?_
        rintro - μ3 ⟨d1, d2, d3⟩
        rw [t_ret]
        refine ⟨?_, fun a h1 h2 => ?_, d3.trans (c3.trans a3)⟩
        · rw [gw]
          exact ⟨rfl, b2, d1, same_tr ws same_put, good_put wg (by omega)⟩
        · rw [d2 a (by omega), c2 a (by omega), a2 a h1]
      cases b
      · rw [t_brT (by decide), li_98]
        exact J98 98 (by rw [hbank]; rfl)
      · rw [t_brF (by decide), li_99]
        exact J98 99 (by rw [hbank]; rfl)
  cases b
  · rw [t_brT (by decide), li_99]
    exact J 99 rfl
  · rw [t_brF (by decide), li_98]
    exact J 98 rfl
theorem send_T {c : Nat} {w : Nat → Nat} {μ : sm_Mem} (hc : isSc c) (hR : RH 14 w μ) (hS : SH c w μ) (hL : LKS w μ) (hG : Good w) {u way : Nat} (hu : u < w 4) (hw : way < 4) (hl : lead w u = true) : T (fnX0_send 41 c (nI u) (nI way)) μ (fun x μ' => SendP c w u way (if uAt w u 98 = true then 98 else 99) x μ μ') := by
  unfold fnX0_send
  rw [li_98, li_99, t_bnd, t_eq (isAt9 hc hR hS hG hu (by omega))]
  cases h1 : uAt w u 98
  · rw [t_brT (by decide), t_bnd, t_eq (isAt9 hc hR hS hG hu (by omega))]
    cases h2 : uAt w u 99
    · rw [t_brT (by decide), t_ret]
      refine ⟨?_, fun _ _ _ => rfl, rfl⟩
      have : goW w u way (if false = true then 98 else 99) = none := by
        unfold goW
        rw [if_neg]
        intro z
        have := z.2
        simp only [Bool.false_eq_true, if_false] at this
        rw [h2] at this
        cases this
      rw [this]
      exact ⟨m1_mI, hS⟩
    · rw [t_brF (by decide)]
      exact send_J26 hc hR hS hL hG hu hw hl false (by simpa using h2)
  · rw [t_brF (by decide)]
    exact send_J26 hc hR hS hL hG hu hw hl true (by simpa using h1)
/-! the reference's side -/
def GoP (w : Nat → Nat) (u way bank : Nat) (x : Bool) (μ μ' : sm_Mem) : Prop := (match goW w u way bank with
    | none => x = false ∧ WH 147 w μ'
    | some z => x = true ∧ WH 147 z.1 μ' ∧ μ'.1 146 19 = nI z.2 ∧ Same w z.1 ∧ Good z.1) ∧ (∀ k, k ≠ 19 → μ'.1 146 k = μ.1 146 k) ∧ (∀ a, a ≠ 146 → a ≠ 147 → (a < 153 ∨ 157 ≤ a) → μ'.1 a = μ.1 a) ∧ μ'.2 = μ.2
theorem same_sum {w w' : Nat → Nat} (h : Same w w') (hG : Good w) {u k : Nat} (hu : u < w 4) (hk : k < 5) : uSum w' k u = uSum w k u := by
  have n := hG.1
  have e1 := h.2.2 u k (by omega) (by omega)
  have e5 := h.2.2 u 5 (by omega) (by omega)
  rw [show 185 + 7 * u + 5 = 190 + 7 * u by omega] at e5
  unfold uSum
  rw [e1, e5]
  rcases hand_cases hG hu with q | ⟨q1, q2, q3, q4⟩
  · rw [if_pos q, if_pos q]
  · rw [if_neg q1, if_neg q1, h.2.2 _ k (by omega) (by omega)]
theorem goes34 {w : Nat → Nat} (hG : Good w) {u bank : Nat} (hu : u < w 4) {l : List Nat} (hl : ∀ x, x ∈ l → x < w 3) (hlen : l.length ≤ 24) {Q : Bool → sm_Mem → Prop} {μ0 : sm_Mem} (h19 : μ0.1 146 19 = nI l.length) (h156 : ∀ i, i < l.length → μ0.1 156 i = nI (l.getD i 0))
    (ex : ∀ μ', WH 147 (wearW w l (uSum w 1 u)) μ' → (∀ a, a ≠ 147 → μ'.1 a = μ0.1 a) → μ'.2 = μ0.2 → T (fnX12_goes_J66 146 (nI u) (nI bank)) μ' Q) :
    ∀ (f i : Nat) (w1 : Nat → Nat) (μ : sm_Mem), l.length - i < f → i ≤ l.length → Same w w1 → wearW w1 (l.drop i) (uSum w 1 u) = wearW w l (uSum w 1 u) → WH 147 w1 μ → (∀ a, a ≠ 147 → μ.1 a = μ0.1 a) → μ.2 = μ0.2 → T (fnX12_goes_L34 f 146 (nI u) (nI bank) (nI i)) μ Q := by
  have n := hG.1
  have e_156 : ln 156 = 25 := rfl
  intro f
  induction f with
  | zero =>
    intro i w1 μ h
    omega
  | succ f ih =>
    intro i w1 μ hf hi hs he hW ho h2
    have x19 : μ.1 146 19 = nI l.length := by rw [ho 146 (by omega)]; exact h19
    unfold fnX12_goes_L34
    rw [t_gi, x19]
    by_cases c1 : l.length ≤ i
    · have : i = l.length := by omega
      subst this
      rw [t_brT (nI_le c1 (by omega))]
      rw [List.drop_length] at he
      have he : w1 = wearW w l (uSum w 1 u) := he
      rw [he] at hW
      exact ex μ hW ho h2
    · have hm : l.getD i 0 ∈ l := by
        rw [List.getD_eq_getElem?_getD, List.getElem?_eq_getElem (by omega)]
        exact List.getElem_mem _
      have hsn := hl _ hm
      have hd : l.drop i = l.getD i 0 :: l.drop (i + 1) := by
        rw [List.drop_eq_getElem_cons (by omega)]
        congr 1
        rw [List.getD_eq_getElem?_getD, List.getElem?_eq_getElem (by omega)]
        rfl
      have x156 : μ.1 156 i = nI (l.getD i 0) := by rw [ho 156 (by omega)]; exact h156 i (by omega)
      have sm : fnX12_sumOf 146 (nI u) (nI 1) μ = some (nI (uSum w 1 u), μ) := by
        have q0 := of_eq hW (p := u) (k := 1) (by omega) (by omega) (by omega)
        have e1 := hs.2.2 u 1 (by omega) (by omega)
        have e5 := hs.2.2 u 5 (by omega) (by omega)
        rw [show 185 + 7 * u + 5 = 190 + 7 * u by omega] at e5
        have hh := ofH_eq hW (p := u) (by omega)
        rw [e5] at hh
        unfold fnX12_sumOf uSum fnX12_second
        simp only [m_bnd, hh, q0, m_br, m_ret]
        rcases hand_cases hG hu with q | ⟨q1, q2, q3, q4⟩
        · rw [if_pos ((hd_m1 (by omega)).mpr q), if_pos q, e1]
          exact congrArg (fun z => some (z, μ)) (nI_add _ 0)
        · have y0 := of_eq hW (p := w (190 + 7 * u) - 1) (k := 1) (by omega) (by omega) (by omega)
          rw [if_neg (fun z => q1 ((hd_m1 (by omega)).mp z)), if_neg q1, hd_q' q1, y0, e1, hs.2.2 _ 1 (by omega) (by omega)]
          simp only [nI_add]
      rw [t_brF (nI_ge (by omega) (by omega)), lk_146_18, t_ai (by omega), x156, li_1, t_bnd, t_eq sm, t_bnd, bears_T hW (by omega), nI_add]
      refine ih (i + 1) (up w1 (16 + 7 * l.getD i 0) (w1 (16 + 7 * l.getD i 0) + uSum w 1 u)) _ (by omega) (by omega) (same_tr hs (same_up (Or.inr (Or.inr (Or.inl ⟨l.getD i 0, by omega, rfl⟩))))) ?_ (wh_up hW ?_) ?_ h2
      · rw [hd] at he
        exact he
      · unfold eI
        rw [if_neg (by omega)]
      · intro a ha
        rw [← ho a ha]
        simp (disch := omega) only [u2_ne, u2_a, u2_k, u2_at]
theorem goes_T {w : Nat → Nat} {μ : sm_Mem} (hW : WH 147 w μ) (hG : Good w) {u way bank : Nat} (hu : u < w 4) (hw : way < 4) (hb : bank = 98 ∨ bank = 99) : T (fnX12_goes 146 (nI u) (nI way) (nI bank)) μ (fun x μ' => GoP w u way bank x μ μ') := by
  have n := hG.1
  obtain ⟨s1, s2⟩ := uStr_rng hG hu
  obtain ⟨t1, t2⟩ := uWt_rng hG hu
  unfold fnX12_goes
  rw [t_bnd, t_eq (isAt12 hW hG hu (by omega))]
  cases ha : (lead w u && uAt w u bank)
  · rw [t_brT (by decide), t_ret]
    have : goW w u way bank = none := by
      unfold goW
      rw [if_neg]
      rintro ⟨z1, z2⟩
      rw [z1, z2] at ha
      cases ha
    refine ⟨?_, fun _ _ => rfl, fun _ _ _ _ => rfl, rfl⟩
    rw [this]
    exact ⟨rfl, hW⟩
  · have hat : lead w u = true ∧ uAt w u bank = true := by
      simpa only [Bool.and_eq_true] using ha
    have gw : goW w u way bank = (match findW w (uStr w u) (uSum w 1 u) way bank with | none => none | some l => some (putW (wearW w l (uSum w 1 u)) u (197 - bank), l.length)) := by
      unfold goW
      rw [if_pos hat]
      cases findW w (uStr w u) (uSum w 1 u) way bank <;> rfl
    rw [t_brF (by decide), t_bnd, t_eq (strideOf12 hW hG hu), li_1, t_bnd, t_eq (sumOf12 hW hG hu (by omega)), t_bnd]
    refine t_mono (finds_T hG s1 s2 t1 (by omega) hw hb hW) ?_
    rintro x μ1 ⟨a1, a2, a3, a4⟩
    have hW1 : WH 147 w μ1 := wh_fr (fun i _ => by rw [a3 147 (by omega) (by omega)]) hW
    cases hf : findW w (uStr w u) (uSum w 1 u) way bank with
    | none =>
      rw [hf] at a1 gw
      have a1 : x = false := a1
      subst a1
      rw [t_brT (by decide), t_ret]
      refine ⟨?_, a2, fun a z1 _ z2 => a3 a z1 z2, a4⟩
      rw [gw]
      exact ⟨rfl, hW1⟩
    | some l =>
      rw [hf] at a1 gw
      obtain ⟨b1, b2, b3, b4, b5, b6⟩ := a1
      subst b1
      obtain ⟨ws, wg⟩ := good_wear hG t1 b5 b6
      have w4 := ws.1 4 (by omega)
      rw [t_brF (by decide)]
      refine goes34 hG hu (fun x hx => (b5 x hx).1) b2 (μ0 := μ1) b3 b4 ?_ 4096 0 w μ1 (by omega) (by omega) (same_rf w) rfl hW1 (fun _ _ => rfl) rfl
      intro μ2 c1 c2 c3
      have J : ∀ to : Nat, to = 197 - bank → T (fnX12_goes_J81 (nI to) (nI u) 146) μ2 (fun x μ' => GoP w u way bank x μ μ') := by
        intro to hto
        subst hto
        unfold fnX12_goes_J81
        rw [t_bnd]
        refine t_mono (puts12 (b := 197 - bank) c1 wg (by omega)) ?_
        rintro - μ3 ⟨d1, d2, d3⟩
        rw [t_ret]
        refine ⟨?_, fun k hk => ?_, fun a z1 z2 z3 => ?_, d3.trans (c3.trans a4)⟩
        · rw [gw]
          exact ⟨rfl, d1, by rw [d2 146 (by omega), c2 146 (by omega)]; exact b3, same_tr ws same_put, good_put wg (by omega)⟩
        · rw [d2 146 (by omega), c2 146 (by omega), a2 k hk]
        · rw [d2 a z2, c2 a z2, a3 a z1 z3]
      unfold fnX12_goes_J66
      rcases hb with rfl | rfl
      · rw [t_brT (show nI 98 = (98 : Int32) from rfl), li_99]
        exact J 99 rfl
      · rw [t_brF (by decide), li_98]
        exact J 98 rfl
theorem op_go (v z : Int32) : op2 Inv (fnX11_go 0 v z) (fnX12_go 146 v z) := by
  apply op_two
  intro w μ hC hO
  obtain ⟨hG, hR, hS, hW, hL, hT, hSl, hI, hF⟩ := id hC
  have n := hG.1
  unfold fnX11_go fnX12_go
  rw [lk_0_5, lk_0_10, lk_0_6, lk_0_11]
  have no : (rg v 0 ((w 4 : Int) - 1) = false ∨ (∃ u, v = nI u ∧ u < w 4 ∧ lead w u = false) ∨ (decide (0 < w 0) && rg z 0 3) = false) → T (fnX12_go 146 v z) μ (fun _ _ => True) → True := fun _ _ => trivial
  cases hv : rg v 0 ((w 4 : Int) - 1)
  · refine ⟨-2, w, same_rf w, hG, ?_, ?_⟩
    · rw [t_bnd, t_eq (isUnit7_no hR hG hv), t_brT (by decide), t_ret]
      exact ⟨rfl, cp_rf hS⟩
    · intro μ1 _ _ hW1
      rw [t_bnd, t_eq (isWay12 hW1 hG _)]
      cases hz : (decide (0 < w 0) && rg z 0 3)
      · rw [t_brT (by decide), t_ret]
        exact ⟨rfl, rp_rf hW1⟩
      · rw [t_brF (by decide), t_bnd, t_eq (isPerson12 hW1 hG _), hv, t_brT (by decide), t_ret]
        exact ⟨rfl, rp_rf hW1⟩
  obtain ⟨u, hu, rfl⟩ := rg_nI hv (by omega)
  cases hz : (decide (0 < w 0) && rg z 0 3)
  · refine ⟨-2, w, same_rf w, hG, ?_, ?_⟩
    · rw [t_bnd, t_eq (isUnit7 hR hG hu)]
      cases lead w u
      · rw [t_brT (by decide), t_ret]
        exact ⟨rfl, cp_rf hS⟩
      · rw [t_brF (by decide), t_bnd, t_eq (isWay11 hR hG _), hz, t_brT (by decide), t_ret]
        exact ⟨rfl, cp_rf hS⟩
    · intro μ1 _ _ hW1
      rw [t_bnd, t_eq (isWay12 hW1 hG _), hz, t_brT (by decide), t_ret]
      exact ⟨rfl, rp_rf hW1⟩
  cases hl : lead w u
  · refine ⟨-2, w, same_rf w, hG, ?_, ?_⟩
    · rw [t_bnd, t_eq (isUnit7 hR hG hu), hl, t_brT (by decide), t_ret]
      exact ⟨rfl, cp_rf hS⟩
    · intro μ1 _ _ hW1
      rw [t_bnd, t_eq (isWay12 hW1 hG _), hz, t_brF (by decide), t_bnd, t_eq (isPerson12 hW1 hG _), hv, t_brF (by decide), t_bnd, t_eq (leads12 hW1 hG hu), hl, t_brT (by decide), t_ret]
      exact ⟨rfl, rp_rf hW1⟩
  have hz2 := hz
  simp only [Bool.and_eq_true] at hz2
  obtain ⟨way, -, hw, rfl⟩ := rg_nat (a := 0) (b := 3) hz2.2 (by omega)
  have st := send_T (way := way) sc_24 hR hS hL hG hu (by omega) hl
  have ref : ∀ (μ1 : sm_Mem), WH 147 w μ1 → ∀ (r : Int32) (w' : Nat → Nat), (match goW w u way (if uAt w u 98 = true then 98 else 99) with | none => r = -5 ∧ w' = w | some x => r = nI x.2 ∧ w' = x.1) → T (m_bnd (fnX12_isWay 146 (nI way)) fun x2 => m_br ((bI x2) = 0) (m_ret (-2 : Int32)) (m_bnd (fnX12_isPerson 146 (nI u)) fun x10 => m_br ((bI x10) = 0) (m_ret (-2 : Int32)) (m_bnd (fnX12_leads 146 (nI u)) fun x18 => m_br ((bI x18) = 0) (m_ret (-2 : Int32)) (m_bnd (fnX12_isAt 146 (nI u) (98 : Int32)) fun x31 => m_br ((bI x31) = 0) (fnX12_go_J44 146 (nI u) (nI way) (99 : Int32)) (fnX12_go_J44 146 (nI u) (nI way) (98 : Int32)))))) μ1 (fun r2 μ2 => r2 = r ∧ RP w' μ1 μ2) := by
    intro μ1 hW1 r w' hm
    rw [t_bnd, t_eq (isWay12 hW1 hG _), hz, t_brF (by decide), t_bnd, t_eq (isPerson12 hW1 hG _), hv, t_brF (by decide), t_bnd, t_eq (leads12 hW1 hG hu), hl, t_brF (by decide), li_98, t_bnd, t_eq (isAt12 hW1 hG hu (by omega)), hl, Bool.true_and]
    have J : ∀ bank : Nat, bank = (if uAt w u 98 = true then 98 else 99) → T (fnX12_go_J44 146 (nI u) (nI way) (nI bank)) μ1 (fun r2 μ2 => r2 = r ∧ RP w' μ1 μ2) := by
      intro bank hb
      have hb98 : bank = 98 ∨ bank = 99 := by
        rw [hb]
        split
        · exact Or.inl rfl
        · exact Or.inr rfl
      rw [← hb] at hm
      unfold fnX12_go_J44
      rw [t_bnd]
      refine t_mono (goes_T hW1 hG hu (show way < 4 by omega) hb98) ?_
      rintro x μ2 ⟨a1, a2, a3, a4⟩
      cases hg : goW w u way bank with
      | none =>
        rw [hg] at a1 hm
        obtain ⟨rfl, a1⟩ := a1
        obtain ⟨rfl, rfl⟩ := hm
        rw [t_brT (by decide), t_ret]
        exact ⟨rfl, a1, fun a ha => a3 a (by omega) (by omega) (by omega), fun k hk => a2 k (by omega), fun a _ => by rw [a4]⟩
      | some q =>
        rw [hg] at a1 hm
        obtain ⟨rfl, b1, b2, -, -⟩ := a1
        obtain ⟨rfl, rfl⟩ := hm
        rw [t_brF (by decide), t_gi, t_ret]
        exact ⟨b2, b1, fun a ha => a3 a (by omega) (by omega) (by omega), fun k hk => a2 k (by omega), fun a _ => by rw [a4]⟩
    cases h98 : uAt w u 98
    · rw [t_brT (by decide), li_99]
      exact J 99 (by rw [h98]; rfl)
    · rw [t_brF (by decide)]
      exact J 98 (by rw [h98]; rfl)
  cases hg : goW w u way (if uAt w u 98 = true then 98 else 99) with
  | none =>
    refine ⟨-5, w, same_rf w, hG, ?_, fun μ1 _ _ hW1 => ref μ1 hW1 (-5) w (by rw [hg]; exact ⟨rfl, rfl⟩)⟩
    rw [t_bnd, t_eq (isUnit7 hR hG hu), hl, t_brF (by decide), t_bnd, t_eq (isWay11 hR hG _), hz, t_brF (by decide), t_bnd]
    refine t_mono st ?_
    rintro x μ1 ⟨a1, a2, a3⟩
    rw [hg] at a1
    obtain ⟨rfl, a1⟩ := a1
    rw [t_brF (show ¬ (0 : Int32) ≤ mI 1 by decide), t_ret]
    exact ⟨rfl, a1, fun a ha => a2 a (by omega) (by omega), by rw [a3], Or.inr ⟨rfl, a2 42 (by omega) (by omega), a2 45 (by omega) (by omega)⟩⟩
  | some q =>
    have st2 := st
    obtain ⟨x0, μ', -, ⟨y0, -⟩⟩ := st2
    rw [hg] at y0
    obtain ⟨-, y1, -, y3, y4⟩ := y0
    refine ⟨nI q.2, q.1, y3, y4, ?_, fun μ1 _ _ hW1 => ref μ1 hW1 _ _ (by rw [hg]; exact ⟨rfl, rfl⟩)⟩
    rw [t_bnd, t_eq (isUnit7 hR hG hu), hl, t_brF (by decide), t_bnd, t_eq (isWay11 hR hG _), hz, t_brF (by decide), t_bnd]
    refine t_mono st ?_
    rintro x μ1 ⟨a1, a2, a3⟩
    rw [hg] at a1
    obtain ⟨rfl, b2, b3, -, -⟩ := a1
    rw [t_brT (show (0 : Int32) ≤ nI q.2 from nI_pos' (by omega)), t_bnd, forget_T, t_ret]
    exact ⟨rfl, sh_fr (μ := μ1) (fun a q1 q2 => (by simp (disch := omega) only [u2_ne, u2_a, u2_k, u2_at])) b3, fun a ha => by rw [← a2 a (by omega) (by omega)]; simp (disch := omega) only [u2_ne, u2_a, u2_k, u2_at], by show μ1.2.1 = _; rw [a3], Or.inl (by simp (disch := omega) only [u2_ne, u2_a, u2_k, u2_at])⟩
