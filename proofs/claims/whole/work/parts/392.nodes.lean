/-! ===== THE REFERENCE'S NODES ===== -/
def gNear (gy : Nat → Nat) (r s : Nat) : Bool := decide (gy s ≤ r)
def gFar (W : Nat) (gy : Nat → Nat) (r s : Nat) : Bool := decide (W - gy s ≤ r)
def gSq (gx gy : Nat → Nat) (s t : Nat) : Nat := dd (gx s) (gx t) * dd (gx s) (gx t) + dd (gy s) (gy t) * dd (gy s) (gy t)
def gAdj (gx gy : Nat → Nat) (r s t : Nat) : Bool := decide (s ≠ t ∧ gSq gx gy s t ≤ r * r)
/-- a plank between two nodes, or none -/
def pkB (po : Option (Nat × Nat)) (a b : Nat) : Bool := match po with
  | none => false
  | some z => decide ((z.1 = a ∧ z.2 = b) ∨ (z.1 = b ∧ z.2 = a))
def PkH (po : Option (Nat × Nat)) (μ : sm_Mem) : Prop := match po with
  | none => μ.1 146 39 = mI 1
  | some z => μ.1 146 39 = nI z.1 ∧ μ.1 146 40 = nI z.2 ∧ z.1 < 100 ∧ z.2 < 100
def nrD (nx ny : Nat → Nat) (r a b : Nat) : Bool := decide ((if a < 2 ∨ b < 2 then 0 else dd (nx a) (nx b) * dd (nx a) (nx b)) + dd (ny a) (ny b) * dd (ny a) (ny b) ≤ r * r)
def nrN (nx ny : Nat → Nat) (po : Option (Nat × Nat)) (r a b : Nat) : Bool := pkB po a b || nrD nx ny r a b
theorem near42 {K : Nat} (hK : K ≤ 27) {nx ny : Nat → Nat} (hx : ∀ k, k < K → nx k ≤ 20) (hy : ∀ k, k < K → ny k ≤ 12) {r : Nat} (hr : r ≤ 9) {μ : sm_Mem} (h161 : ∀ k, 2 ≤ k → k < K → μ.1 161 k = nI (nx k)) (h162 : ∀ k, k < K → μ.1 162 k = nI (ny k)) {a b : Nat} (ha : a < K) (hb : b < K) : fnX12_areNear_J42 146 (nI a) (nI b) (nI r) μ = some (nrD nx ny r a b, μ) := by
  have e_161 : ln 161 = 27 := rfl
  have e_162 : ln 162 = 27 := rfl
  have y1 := hy a ha
  have y2 := hy b hb
  have x1 := hx a ha
  have x2 := hx b hb
  have dy := dd_le (a := ny a) (b := ny b) (m := 12) y1 y2
  have dx := dd_le (a := nx a) (b := nx b) (m := 20) x1 x2
  have rr : r * r ≤ 9 * 9 := Nat.mul_le_mul hr hr
  have fin : ∀ X : Nat, X ≤ 400 → ∀ z : Int32, z * z = nI X → fnX12_areNear_J84 (nI r) (nI (ny a) - nI (ny b)) z μ = some (decide (X + dd (ny a) (ny b) * dd (ny a) (ny b) ≤ r * r), μ) := by
    intro X hX z hz
    unfold fnX12_areNear_J84
    rw [hz, sub_sq (by omega) (by omega), pk_mul, nI_add]
    by_cases c : r * r < X + dd (ny a) (ny b) * dd (ny a) (ny b)
    · rw [e_T (nI_lt c (by omega)), decide_eq_false (by omega)]
      rfl
    · rw [e_F (nI_nlt (by omega) (by omega)), decide_eq_true (by omega)]
      rfl
  unfold fnX12_areNear_J42 fnX12_areNear_J67 nrD
  rw [lk_146_33, lk_146_32, e_ai (by omega), h162 a ha, e_ai (by omega), h162 b hb, e_nm']
  by_cases c1 : a < 2
  · rw [e_T (show nI a < (2 : Int32) from nI_lt (b := 2) c1 (by omega)), if_pos (Or.inl c1)]
    exact fin 0 (by omega) 0 rfl
  · rw [e_F (show ¬ nI a < (2 : Int32) from nI_nlt (b := 2) (by omega) (by omega))]
    by_cases c2 : b < 2
    · rw [e_F (show ¬ (2 : Int32) ≤ nI b from nI_ge (b := 2) c2 (by omega)), if_pos (Or.inr c2)]
      exact fin 0 (by omega) 0 rfl
    · rw [e_T (show (2 : Int32) ≤ nI b from nI_le (a := 2) (by omega) (by omega)), if_neg (by omega), e_ai (by omega), h161 a (by omega) ha, e_ai (by omega), h161 b (by omega) hb]
      exact fin _ (by omega) _ (sub_sq (by omega) (by omega))
theorem areNear_eq {K : Nat} (hK : K ≤ 27) {nx ny : Nat → Nat} (hx : ∀ k, k < K → nx k ≤ 20) (hy : ∀ k, k < K → ny k ≤ 12) {r : Nat} (hr : r ≤ 9) {po : Option (Nat × Nat)} {μ : sm_Mem} (h161 : ∀ k, 2 ≤ k → k < K → μ.1 161 k = nI (nx k)) (h162 : ∀ k, k < K → μ.1 162 k = nI (ny k)) (hp : PkH po μ) {a b : Nat} (ha : a < K) (hb : b < K) : fnX12_areNear 146 (nI a) (nI b) (nI r) μ = some (nrN nx ny po r a b, μ) := by
  have d := near42 hK hx hy hr h161 h162 ha hb
  unfold fnX12_areNear fnX12_areNear_J24 nrN
  cases po with
  | none =>
    have hp : μ.1 146 39 = mI 1 := hp
    rw [e_gi, hp, e_T m1_mI.symm, d]
    rfl
  | some z =>
    obtain ⟨p1, p2, p3, p4⟩ := hp
    show _ = some (decide ((z.1 = a ∧ z.2 = b) ∨ (z.1 = b ∧ z.2 = a)) || nrD nx ny r a b, μ)
    have second : (m_gi 146 39 fun x25 => m_br (x25 = nI b) (m_gi 146 40 fun x33 => m_br (x33 = nI a) (m_ret true) (fnX12_areNear_J42 146 (nI a) (nI b) (nI r))) (fnX12_areNear_J42 146 (nI a) (nI b) (nI r))) μ = some (decide (z.1 = b ∧ z.2 = a) || nrD nx ny r a b, μ) := by
      rw [e_gi, p1]
      by_cases c1 : z.1 = b
      · rw [e_T (by rw [c1]), e_gi, p2]
        by_cases c2 : z.2 = a
        · rw [e_T (by rw [c2]), decide_eq_true ⟨c1, c2⟩]
          rfl
        · rw [e_F (fun q => c2 ((nI_eq (by omega) (by omega)).mp q)), d, decide_eq_false (fun q => c2 q.2)]
          rfl
      · rw [e_F (fun q => c1 ((nI_eq (by omega) (by omega)).mp q)), d, decide_eq_false (fun q => c1 q.1)]
        rfl
    rw [e_gi, p1, e_F (n_m1 (by omega)), e_gi, p1]
    by_cases c1 : z.1 = a
    · rw [e_T (by rw [c1]), e_gi, p2]
      by_cases c2 : z.2 = b
      · rw [e_T (by rw [c2]), decide_eq_true (Or.inl ⟨c1, c2⟩)]
        rfl
      · rw [e_F (fun q => c2 ((nI_eq (by omega) (by omega)).mp q)), second]
        congr 3
        apply decide_eq_decide.mpr
        omega
    · rw [e_F (fun q => c1 ((nI_eq (by omega) (by omega)).mp q)), second]
      congr 3
      apply decide_eq_decide.mpr
      omega
/-- nodes at hand -/
def NdH (K : Nat) (nx ny hold : Nat → Nat) (μ : sm_Mem) : Prop := μ.1 146 35 = nI K ∧ (∀ k, 2 ≤ k → k < K → μ.1 161 k = nI (nx k)) ∧ (∀ k, k < K → μ.1 162 k = nI (ny k)) ∧ ∀ k, k < K → μ.1 163 k = nI (hold k)
def FrN (μ0 μ : sm_Mem) : Prop := (∀ a, (a < 161 ∨ 167 ≤ a) → a ≠ 146 → μ.1 a = μ0.1 a) ∧ (∀ k, k ≠ 35 → μ.1 146 k = μ0.1 146 k) ∧ μ.2 = μ0.2
theorem frN_rf (μ : sm_Mem) : FrN μ μ := ⟨fun _ _ _ => rfl, fun _ _ => rfl, rfl⟩
theorem frN_tr {μ μ1 μ2 : sm_Mem} (h : FrN μ μ1) (h' : FrN μ1 μ2) : FrN μ μ2 := ⟨fun a q1 q2 => (h'.1 a q1 q2).trans (h.1 a q1 q2), fun k q => (h'.2.1 k q).trans (h.2.1 k q), h'.2.2.trans h.2.2⟩
/-- the stones as nodes -/
def sx (w : Nat → Nat) (s : Nat) : Nat := w (10 + 7 * s)
def sy (w : Nat → Nat) (s : Nat) : Nat := w (11 + 7 * s)
def ndx (gx : Nat → Nat) (k : Nat) : Nat := if k < 2 then 0 else gx (k - 2)
def ndy (W : Nat) (gy : Nat → Nat) (k : Nat) : Nat := if k = 0 then 0 else if k = 1 then W else gy (k - 2)
def ndh (b : Nat → Nat) (k : Nat) : Nat := if k < 2 then 999 else b (k - 2)
theorem addNode_T {K : Nat} (hK : K < 27) {nx ny hold : Nat → Nat} {μ : sm_Mem} (hN : NdH K nx ny hold μ) (x y b : Nat) : T (fnX12_addNode 146 (nI x) (nI y) (nI b)) μ (fun _ μ' => NdH (K + 1) (up nx K x) (up ny K y) (up hold K b) μ' ∧ FrN μ μ') := by
  have e_161 : ln 161 = 27 := rfl
  have e_162 : ln 162 = 27 := rfl
  have e_163 : ln 163 = 27 := rfl
  obtain ⟨n1, n2, n3, n4⟩ := hN
  unfold fnX12_addNode
  have f1 : ∀ (A B : sm_Mem), A.1 146 35 = nI K → B.1 146 35 = A.1 146 35 → B.1 146 35 = nI K := fun A B h1 h2 => h2.trans h1
  rw [lk_146_32, lk_146_33, lk_146_34, t_gi, n1, t_sai (by omega), t_gi]
  rw [show (u2 μ.1 161 K (nI x), μ.2).1 146 35 = nI K from by rw [← n1]; simp (disch := omega) only [u2_ne, u2_a, u2_k, u2_at]]
  rw [t_sai (by omega), t_gi]
  rw [show (u2 (u2 μ.1 161 K (nI x)) 162 K (nI y), μ.2).1 146 35 = nI K from by rw [← n1]; simp (disch := omega) only [u2_ne, u2_a, u2_k, u2_at]]
  rw [t_sai (by omega), t_gi]
  rw [show (u2 (u2 (u2 μ.1 161 K (nI x)) 162 K (nI y)) 163 K (nI b), μ.2).1 146 35 = nI K from by rw [← n1]; simp (disch := omega) only [u2_ne, u2_a, u2_k, u2_at]]
  rw [nI_1, t_si, t_ret]
  refine ⟨⟨(by simp (disch := omega) only [u2_ne, u2_a, u2_k, u2_at]), ?_, ?_, ?_⟩, ?_, ?_, rfl⟩
  · intro k k1 k2
    by_cases c : k = K
    · subst c
      rw [up_at]
      simp (disch := omega) only [u2_ne, u2_a, u2_k, u2_at]
    · rw [up_ne c, ← n2 k k1 (by omega)]
      simp (disch := omega) only [u2_ne, u2_a, u2_k, u2_at]
  · intro k k2
    by_cases c : k = K
    · subst c
      rw [up_at]
      simp (disch := omega) only [u2_ne, u2_a, u2_k, u2_at]
    · rw [up_ne c, ← n3 k (by omega)]
      simp (disch := omega) only [u2_ne, u2_a, u2_k, u2_at]
  · intro k k2
    by_cases c : k = K
    · subst c
      rw [up_at]
      simp (disch := omega) only [u2_ne, u2_a, u2_k, u2_at]
    · rw [up_ne c, ← n4 k (by omega)]
      simp (disch := omega) only [u2_ne, u2_a, u2_k, u2_at]
  · intro a h1 h2
    simp (disch := omega) only [u2_ne, u2_a, u2_k, u2_at]
  · intro k h1
    simp (disch := omega) only [u2_ne, u2_a, u2_k, u2_at]
theorem ndH_cong {K : Nat} {nx ny hold nx' ny' hold' : Nat → Nat} {μ : sm_Mem} (hN : NdH K nx ny hold μ) (h1 : ∀ k, k < K → nx k = nx' k) (h2 : ∀ k, k < K → ny k = ny' k) (h3 : ∀ k, k < K → hold k = hold' k) : NdH K nx' ny' hold' μ := ⟨hN.1, fun k q1 q2 => by rw [← h1 k q2]; exact hN.2.1 k q1 q2, fun k q => by rw [← h2 k q]; exact hN.2.2.1 k q, fun k q => by rw [← h3 k q]; exact hN.2.2.2 k q⟩
theorem nodes44 {w : Nat → Nat} (hG : Good w) {wt : Nat} (hw : 1 ≤ wt) (hw2 : wt < 100) {μ0 : sm_Mem} (hW : WH 147 w μ0) : ∀ (f s : Nat) (μ : sm_Mem), w 3 - s < f → s ≤ w 3 → NdH (s + 2) (ndx (sx w)) (ndy (w 1) (sy w)) (ndh (fun s => lf w s / wt)) μ → FrN μ0 μ → T (fnX12_fillNodes_L44 f 146 (nI wt) (nI s)) μ (fun _ μ' => NdH (w 3 + 2) (ndx (sx w)) (ndy (w 1) (sy w)) (ndh (fun s => lf w s / wt)) μ' ∧ FrN μ0 μ') := by
  have n := hG.1
  have e_147 : ln 147 = 241 := rfl
  intro f
  induction f with
  | zero =>
    intro s μ h
    omega
  | succ f ih =>
    intro s μ hf hs hN hr
    have hW1 : WH 147 w μ := wh_fr (fun i _ => by rw [hr.1 147 (by omega) (by omega)]) hW
    have w3 := wh_lo hW1 (i := 3) (by omega)
    unfold fnX12_fillNodes_L44
    rw [lk_146_1, li_3, t_ai (by omega), w3]
    by_cases c1 : w 3 ≤ s
    · have : s = w 3 := by omega
      subst this
      rw [t_brT (nI_le c1 (by omega)), t_ret]
      exact ⟨hN, hr⟩
    · have l9 := lf_le hG (show s < w 3 by omega)
      rw [t_brF (nI_ge (by omega) (by omega)), li_0, li_1, t_bnd, t_eq (ofStone_eq hW1 (by omega) (by omega)), t_bnd, t_eq (ofStone_eq hW1 (by omega) (by omega)), t_bnd, t_eq (left12 hW1 hG (by omega)), t_gd (show ¬ nI wt = nI 0 from fun q => by have := (nI_eq (by omega) (by omega)).mp q; omega), pk_div (by omega) (by omega) (by omega), t_bnd]
      refine t_mono (addNode_T (by omega) hN _ _ _) ?_
      rintro - μ1 ⟨a1, a2⟩
      rw [nI_add]
      refine ih (s + 1) μ1 (by omega) (by omega) (ndH_cong a1 ?_ ?_ ?_) (frN_tr hr a2)
      · intro k hk
        by_cases c : k = s + 2
        · rw [c, up_at]
          unfold ndx sx
          rw [if_neg (by omega), show s + 2 - 2 = s by omega, Nat.add_zero]
        · rw [up_ne c]
      · intro k hk
        by_cases c : k = s + 2
        · rw [c, up_at]
          unfold ndy sy
          rw [if_neg (by omega), if_neg (by omega), show s + 2 - 2 = s by omega, show 10 + 7 * s + 1 = 11 + 7 * s by omega]
        · rw [up_ne c]
      · intro k hk
        by_cases c : k = s + 2
        · rw [c, up_at]
          unfold ndh
          rw [if_neg (by omega), show s + 2 - 2 = s by omega]
        · rw [up_ne c]
theorem fillNodes_T {w : Nat → Nat} (hG : Good w) {wt : Nat} (hw : 1 ≤ wt) (hw2 : wt < 100) {μ : sm_Mem} (hW : WH 147 w μ) : T (fnX12_fillNodes 146 (nI wt)) μ (fun _ μ' => NdH (w 3 + 2) (ndx (sx w)) (ndy (w 1) (sy w)) (ndh (fun s => lf w s / wt)) μ' ∧ FrN μ μ') := by
  have n := hG.1
  have e_147 : ln 147 = 241 := rfl
  have e_162 : ln 162 = 27 := rfl
  have e_163 : ln 163 = 27 := rfl
  have w1 := wh_lo hW (i := 1) (by omega)
  unfold fnX12_fillNodes
  rw [lk_146_33, lk_146_1, lk_146_34, t_si, li_0, li_1, t_sai (by omega), t_ai (by omega), t_sai (by omega), t_sai (by omega), t_sai (by omega)]
  rw [show (u2 (u2 μ.1 146 35 2) 162 0 (nI 0), μ.2).1 147 1 = nI (w 1) from by rw [← w1]; simp (disch := omega) only [u2_ne, u2_a, u2_k, u2_at]]
  refine nodes44 hG hw hw2 hW 4096 0 _ (by omega) (by omega) ⟨(by simp (disch := omega) only [u2_ne, u2_a, u2_k, u2_at]; rfl), fun k h1 h2 => by omega, ?_, ?_⟩ ⟨fun a h1 h2 => (by simp (disch := omega) only [u2_ne, u2_a, u2_k, u2_at]), fun k h1 => (by simp (disch := omega) only [u2_ne, u2_a, u2_k, u2_at]), rfl⟩
  · intro k hk
    have : k = 0 ∨ k = 1 := by omega
    rcases this with rfl | rfl
    · show _ = nI 0
      simp (disch := omega) only [u2_ne, u2_a, u2_k, u2_at]
    · show _ = nI (w 1)
      simp (disch := omega) only [u2_ne, u2_a, u2_k, u2_at]
  · intro k hk
    have : k = 0 ∨ k = 1 := by omega
    rcases this with rfl | rfl
    · show _ = nI 999
      simp (disch := omega) only [u2_ne, u2_a, u2_k, u2_at]
      rfl
    · show _ = nI 999
      simp (disch := omega) only [u2_ne, u2_a, u2_k, u2_at]
      rfl
/-! from nodes to spots -/
theorem nr_near {W : Nat} {gx gy : Nat → Nat} {r s : Nat} : nrD (ndx gx) (ndy W gy) r 0 (s + 2) = gNear gy r s := by
  unfold nrD gNear ndy
  rw [if_pos (Or.inl (by omega)), if_pos rfl, if_neg (by omega), if_neg (by omega), show s + 2 - 2 = s by omega, Nat.zero_add]
  apply decide_eq_decide.mpr
  have : dd 0 (gy s) = gy s := by unfold dd; omega
  rw [this]
  exact sq_iff
theorem nr_far {W : Nat} {gx gy : Nat → Nat} {r s : Nat} (h : gy s ≤ W) : nrD (ndx gx) (ndy W gy) r (s + 2) 1 = gFar W gy r s := by
  unfold nrD gFar ndy
  rw [if_pos (Or.inr (by omega)), if_neg (by omega), if_neg (by omega), if_neg (by omega), if_pos rfl, show s + 2 - 2 = s by omega, Nat.zero_add]
  apply decide_eq_decide.mpr
  have : dd (gy s) W = W - gy s := by unfold dd; omega
  rw [this]
  exact sq_iff
theorem nr_adj {W : Nat} {gx gy : Nat → Nat} {r s t : Nat} : (decide (s ≠ t) && nrD (ndx gx) (ndy W gy) r (s + 2) (t + 2)) = gAdj gx gy r s t := by
  unfold nrD gAdj ndx ndy gSq
  rw [if_neg (show ¬ (s + 2 < 2 ∨ t + 2 < 2) by omega), if_neg (show ¬ s + 2 < 2 by omega), if_neg (show ¬ t + 2 < 2 by omega), if_neg (show ¬ s + 2 = 0 by omega), if_neg (show ¬ s + 2 = 1 by omega), if_neg (show ¬ t + 2 = 0 by omega), if_neg (show ¬ t + 2 = 1 by omega), show s + 2 - 2 = s by omega, show t + 2 - 2 = t by omega]
  by_cases c : s = t
  · rw [decide_eq_false (fun q => q c), Bool.false_and, decide_eq_false (p := s ≠ t ∧ _) (fun q => q.1 c)]
  · rw [decide_eq_true c, Bool.true_and]
    apply decide_eq_decide.mpr
    exact ⟨fun q => ⟨c, q⟩, fun q => q.2⟩
theorem nr_01 {W : Nat} {gx gy : Nat → Nat} {r : Nat} : nrD (ndx gx) (ndy W gy) r 0 1 = decide (W ≤ r) ∧ nrD (ndx gx) (ndy W gy) r 1 0 = decide (W ≤ r) := by
  unfold nrD ndy
  have e1 : dd 0 W = W := by unfold dd; omega
  have e2 : dd W 0 = W := by unfold dd; omega
  constructor
  · show decide (0 + dd 0 W * dd 0 W ≤ r * r) = _
    rw [e1, Nat.zero_add]
    exact decide_eq_decide.mpr sq_iff
  · show decide (0 + dd W 0 * dd W 0 ≤ r * r) = _
    rw [e2, Nat.zero_add]
    exact decide_eq_decide.mpr sq_iff
/-- the network of spots, with a plank between nodes -/
def pNear (po : Option (Nat × Nat)) (gy : Nat → Nat) (r s : Nat) : Bool := pkB po 0 (s + 2) || gNear gy r s
def pFar (po : Option (Nat × Nat)) (W : Nat) (gy : Nat → Nat) (r s : Nat) : Bool := pkB po (s + 2) 1 || gFar W gy r s
def pAdj (po : Option (Nat × Nat)) (gx gy : Nat → Nat) (r s t : Nat) : Bool := decide (s ≠ t) && (pkB po (s + 2) (t + 2) || gAdj gx gy r s t)
/-- the flow over nodes at hand -/
theorem flowN_T {n W : Nat} (hn : n ≤ 25) {gx gy b : Nat → Nat} {po : Option (Nat × Nat)} {r : Nat} (hr : r ≤ 9) (hW : W ≤ 12) (hx : ∀ s, s < n → gx s ≤ 20) (hy : ∀ s, s < n → gy s ≤ W) (hb : ∀ s, b s ≤ 9) (h01 : pkB po 0 1 = false) (hrW : r < W) {μ : sm_Mem} (hN : NdH (n + 2) (ndx gx) (ndy W gy) (ndh b) μ) (hp : PkH po μ) :
    T (fnX12_flow 146 (nI r)) μ (fun x μ' => ∃ (v : Nat) (S : Nat → Bool), x = nI v ∧ v ≤ n * 9 ∧ MinC n b (pNear po gy r) (pFar po W gy r) (pAdj po gx gy r) v (fun s => S (2 * (s + 2))) (fun s => S (2 * (s + 2) + 1)) ∧ (∀ k, k < 2 * (n + 2) → (μ'.1 165 k = mI 1 ↔ S k = false)) ∧ FrR μ μ') := by
  have h10 : pkB po 1 0 = false := by
    cases po with
    | none => rfl
    | some z =>
      have h : decide ((z.1 = 0 ∧ z.2 = 1) ∨ (z.1 = 1 ∧ z.2 = 0)) = false := h01
      show decide ((z.1 = 1 ∧ z.2 = 0) ∨ (z.1 = 0 ∧ z.2 = 1)) = false
      have h := of_decide_eq_false h
      exact decide_eq_false (by omega)
  have n01 : nrN (ndx gx) (ndy W gy) po r 0 1 = false := by
    unfold nrN
    rw [h01, nr_01.1, decide_eq_false (by omega)]
    rfl
  have n10 : nrN (ndx gx) (ndy W gy) po r 1 0 = false := by
    unfold nrN
    rw [h10, nr_01.2, decide_eq_false (by omega)]
    rfl
  have kx : ∀ k, k < n + 2 → ndx gx k ≤ 20 := by
    intro k hk
    unfold ndx
    split
    · omega
    · exact hx _ (by omega)
  have ky : ∀ k, k < n + 2 → ndy W gy k ≤ 12 := by
    intro k hk
    unfold ndy
    split
    · omega
    · split
      · omega
      · have := hy (k - 2) (by omega)
        omega
  have kb : ∀ k, ndh b k ≤ 999 := by
    intro k
    unfold ndh
    split
    · omega
    · have := hb (k - 2)
      omega
  have kb9 : ∀ s, s < n → ndh b (s + 2) ≤ 9 := by
    intro s _
    unfold ndh
    rw [if_neg (by omega)]
    exact hb _
  have nrh : NrH (n + 2) (nI r) (nrN (ndx gx) (ndy W gy) po r) μ := by
    intro μ' hf a c ha hc
    refine areNear_eq (K := n + 2) (by omega) kx ky hr (fun k q1 q2 => by rw [hf.1 161 (by omega) (by omega) (by omega)]; exact hN.2.1 k q1 q2) (fun k q => by rw [hf.1 162 (by omega) (by omega) (by omega)]; exact hN.2.2.1 k q) ?_ ha hc
    cases po with
    | none =>
      show μ'.1 146 39 = mI 1
      rw [hf.1 146 (by omega) (by omega) (by omega)]
      exact hp
    | some z =>
      show μ'.1 146 39 = nI z.1 ∧ μ'.1 146 40 = nI z.2 ∧ z.1 < 100 ∧ z.2 < 100
      rw [hf.1 146 (by omega) (by omega) (by omega)]
      exact hp
  refine t_mono (flow_T hn kb kb9 n01 n10 hN.1 hN.2.2.2 nrh) ?_
  rintro x μ' ⟨v, S, e1, e2, e3, e4, e5⟩
  refine ⟨v, S, e1, e2, minC_cong ?_ ?_ e3, e4, e5⟩
  · intro s _
    show ndh b (s + 2) = b s
    unfold ndh
    rw [if_neg (by omega), show s + 2 - 2 = s by omega]
  · intro s hs
    refine ⟨?_, ?_, fun t ht => ?_⟩
    · show (pkB po 0 (s + 2) || nrD (ndx gx) (ndy W gy) r 0 (s + 2)) = _
      rw [nr_near]
      rfl
    · show (pkB po (s + 2) 1 || nrD (ndx gx) (ndy W gy) r (s + 2) 1) = _
      rw [nr_far (hy s hs)]
      rfl
    · show (decide (s ≠ t) && (pkB po (s + 2) (t + 2) || nrD (ndx gx) (ndy W gy) r (s + 2) (t + 2))) = (decide (s ≠ t) && (pkB po (s + 2) (t + 2) || gAdj gx gy r s t))
      rw [← nr_adj (W := W)]
      cases decide (s ≠ t)
      · rfl
      · rfl
theorem flowN_999 {n W : Nat} (hn : n ≤ 25) {gx gy b : Nat → Nat} {po : Option (Nat × Nat)} {r : Nat} (hr : r ≤ 9) (hW : W ≤ 12) (hx : ∀ s, s < n → gx s ≤ 20) (hy : ∀ s, s < n → gy s ≤ W) (h : pkB po 0 1 = true ∨ W ≤ r) {μ : sm_Mem} (hN : NdH (n + 2) (ndx gx) (ndy W gy) (ndh b) μ) (hp : PkH po μ) : fnX12_flow 146 (nI r) μ = some (nI 999, μ) := by
  have kx : ∀ k, k < n + 2 → ndx gx k ≤ 20 := by
    intro k hk
    unfold ndx
    split
    · omega
    · exact hx _ (by omega)
  have ky : ∀ k, k < n + 2 → ndy W gy k ≤ 12 := by
    intro k hk
    unfold ndy
    split
    · omega
    · split
      · omega
      · have := hy (k - 2) (by omega)
        omega
  have e := areNear_eq (K := n + 2) (by omega) kx ky hr hN.2.1 hN.2.2.1 hp (a := 0) (b := 1) (by omega) (by omega)
  have n01 : nrN (ndx gx) (ndy W gy) po r 0 1 = true := by
    unfold nrN
    rcases h with h | h
    · rw [h]
      rfl
    · rw [nr_01.1, decide_eq_true h]
      simp
  unfold fnX12_flow
  rw [li_0, li_1, e_b e, n01, e_F (by decide)]
  rfl
