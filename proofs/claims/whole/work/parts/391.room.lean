/-! ===== THE REFERENCE'S FLOW ===== -/
def RmH (M : Nat) (R : Nat → Nat → Nat) (μ : sm_Mem) : Prop := ∀ x y, x < M → y < M → μ.1 164 (54 * x + y) = nI (R x y)
def FrR (μ0 μ : sm_Mem) : Prop := (∀ a, a ≠ 164 → a ≠ 165 → a ≠ 166 → μ.1 a = μ0.1 a) ∧ μ.2 = μ0.2
/-- who is near whom, whatever the room is -/
def NrH (K : Nat) (r : Int32) (nr : Nat → Nat → Bool) (μ0 : sm_Mem) : Prop := ∀ μ', FrR μ0 μ' → ∀ a b, a < K → b < K → fnX12_areNear 146 (nI a) (nI b) r μ' = some (nr a b, μ')
def Fil (K : Nat) (hold : Nat → Nat) (nr : Nat → Nat → Bool) (a j : Nat) (μ : sm_Mem) : Prop := ∀ x y, x < 2 * K → y < 2 * K → (x / 2 < a ∨ (x / 2 = a ∧ y / 2 < j)) → μ.1 164 (54 * x + y) = nI (Cn hold nr x y)
theorem fil_4 {K : Nat} (hK : K ≤ 27) {hold : Nat → Nat} {nr : Nat → Nat → Bool} {a j : Nat} (ha : a < K) (hj : j < K) {μ : sm_Mem} (h : Fil K hold nr a j μ) : Fil K hold nr a (j + 1) (u2 (u2 (u2 (u2 μ.1 164 (108 * a + 2 * j) (nI 0)) 164 (54 * (2 * a + 1) + 2 * j + 1) (nI 0)) 164 (108 * a + 2 * j + 1) (nI (Cn hold nr (2 * a) (2 * j + 1)))) 164 (54 * (2 * a + 1) + 2 * j) (nI (Cn hold nr (2 * a + 1) (2 * j))), μ.2) := by
  intro x y hx hy hc
  by_cases c : x / 2 = a ∧ y / 2 = j
  · have cs : (x = 2 * a ∨ x = 2 * a + 1) ∧ (y = 2 * j ∨ y = 2 * j + 1) := by omega
    obtain ⟨rfl | rfl, rfl | rfl⟩ := cs
    · rw [show Cn hold nr (2 * a) (2 * j) = 0 from by rw [cn_in, if_neg (by omega)], show 54 * (2 * a) + 2 * j = 108 * a + 2 * j by omega]
      simp (disch := omega) only [u2_ne, u2_a, u2_k, u2_at]
    · rw [show 54 * (2 * a) + (2 * j + 1) = 108 * a + 2 * j + 1 by omega]
      simp (disch := omega) only [u2_ne, u2_a, u2_k, u2_at]
    · simp (disch := omega) only [u2_ne, u2_a, u2_k, u2_at]
    · rw [cn_out (b := 2 * j + 1), if_neg (by omega), show 54 * (2 * a + 1) + (2 * j + 1) = 54 * (2 * a + 1) + 2 * j + 1 by omega]
      simp (disch := omega) only [u2_ne, u2_a, u2_k, u2_at]
  · rw [← h x y hx hy (by omega)]
    simp (disch := omega) only [u2_ne, u2_a, u2_k, u2_at]
theorem fill12 {k2 : Nat → Int32 → Int32 → sm_M Unit} {Q : Unit → sm_Mem → Prop} {K : Nat} (hK : K ≤ 27) {hold : Nat → Nat} {nr : Nat → Nat → Bool} {r : Int32} {μ0 : sm_Mem} (h35 : μ0.1 146 35 = nI K) (hh : ∀ k, k < K → μ0.1 163 k = nI (hold k)) (hn : NrH K r nr μ0) {a : Nat} (ha : a < K)
    (ex : ∀ μ', Fil K hold nr (a + 1) 0 μ' → FrR μ0 μ' → T (k2 146 r (nI (a + 1))) μ' Q) :
    ∀ (f j : Nat) (μ : sm_Mem), K - j < f → j ≤ K → Fil K hold nr a j μ → FrR μ0 μ → T (fnX12_fillRoom_L12 k2 f 146 r (nI a) (nI j)) μ Q := by
  have e_164 : ln 164 = 2916 := rfl
  have e_163 : ln 163 = 27 := rfl
  intro f
  induction f with
  | zero =>
    intro j μ h
    omega
  | succ f ih =>
    intro j μ hf hj hF hr
    have x35 : μ.1 146 35 = nI K := by rw [hr.1 146 (by omega) (by omega) (by omega)]; exact h35
    unfold fnX12_fillRoom_L12
    rw [t_gi, x35]
    by_cases c1 : K ≤ j
    · have : j = K := by omega
      subst this
      rw [t_brT (nI_le c1 (by omega))]
      unfold fnX12_fillRoom_J129
      rw [nI_1]
      exact ex μ (fun x y hx hy hc => hF x y hx hy (by omega)) hr
    · rw [t_brF (nI_ge (by omega) (by omega))]
      simp only [lk_146_36, lk_146_34, li_108, li_54, li_2, li_1, pk_mul, nI_add]
      rw [t_sai (by omega), t_sai (by omega)]
      have J : ∀ μ1 : sm_Mem, FrR μ0 μ1 → (∀ z, T (m_sai 164 (nI (54 * (2 * a + 1) + 2 * j)) z (fnX12_fillRoom_L12 k2 f 146 r (nI a) (nI (j + 1)))) (u2 μ1.1 164 (108 * a + 2 * j + 1) (nI (Cn hold nr (2 * a) (2 * j + 1))), μ1.2) Q ∨ z ≠ nI (Cn hold nr (2 * a + 1) (2 * j))) → T (fnX12_fillRoom_J83 k2 (fnX12_fillRoom_L12 k2 f) 146 r (nI a) (nI j) (nI (Cn hold nr (2 * a) (2 * j + 1))) (nI (108 * a + 2 * j + 1)) 164) μ1 Q := by
        intro μ1 hr1 hz
        have hr2 : FrR μ0 (u2 μ1.1 164 (108 * a + 2 * j + 1) (nI (Cn hold nr (2 * a) (2 * j + 1))), μ1.2) := ⟨fun z z1 z2 z3 => by rw [← hr1.1 z z1 z2 z3]; simp (disch := omega) only [u2_ne, u2_a, u2_k, u2_at], hr1.2⟩
        unfold fnX12_fillRoom_J83 fnX12_fillRoom_J121 fnX12_fillRoom_J122
        simp only [lk_146_36, li_54, li_2, li_1, pk_mul, nI_add]
        rw [t_sai (by omega)]
        by_cases c2 : a = j
        · rw [t_brT (by rw [c2])]
          rcases hz 0 with q | q
          · exact q
          · exact absurd (by rw [cn_out, if_neg (by omega)]; rfl) q
        · rw [t_brF (fun q => c2 ((nI_eq (by omega) (by omega)).mp q)), t_bnd, t_eq (hn _ hr2 a j ha (by omega))]
          cases hq : nr a j
          · rw [t_brT (by decide)]
            rcases hz 0 with q | q
            · exact q
            · exact absurd (by rw [cn_out, if_neg (fun z => by rw [show 2 * j / 2 = j by omega, hq] at z; exact absurd z.2.2 (by decide))]; rfl) q
          · rw [t_brF (by decide)]
            rcases hz 999 with q | q
            · exact q
            · exact absurd (by rw [cn_out, if_pos ⟨by omega, by omega, by rw [show 2 * j / 2 = j by omega]; exact hq⟩]; rfl) q
      have hr1 : FrR μ0 (u2 (u2 μ.1 164 (108 * a + 2 * j) 0) 164 (54 * (2 * a + 1) + 2 * j + 1) 0, μ.2) := ⟨fun z z1 z2 z3 => by rw [← hr.1 z z1 z2 z3]; simp (disch := omega) only [u2_ne, u2_a, u2_k, u2_at], hr.2⟩
      have main := J _ hr1 (fun z => by
        by_cases cz : z = nI (Cn hold nr (2 * a + 1) (2 * j))
        · left
          subst cz
          rw [t_sai (by omega)]
          exact ih (j + 1) _ (by omega) (by omega) (fil_4 hK ha (by omega) hF) ⟨fun z z1 z2 z3 => by rw [← hr.1 z z1 z2 z3]; simp (disch := omega) only [u2_ne, u2_a, u2_k, u2_at], hr.2⟩
        · exact Or.inr cz)
      by_cases c2 : a = j
      · have xh : (u2 (u2 μ.1 164 (108 * a + 2 * j) 0) 164 (54 * (2 * a + 1) + 2 * j + 1) 0, μ.2).1 163 a = nI (hold a) := by
          rw [hr1.1 163 (by omega) (by omega) (by omega)]
          exact hh a ha
        have e : Cn hold nr (2 * a) (2 * j + 1) = hold a := by rw [cn_in, if_pos (by omega)]
        rw [e] at main
        rw [t_brT (by rw [c2]), t_ai (by omega), xh]
        exact main
      · have e : Cn hold nr (2 * a) (2 * j + 1) = 0 := by rw [cn_in, if_neg (by omega)]
        rw [e] at main
        rw [t_brF (fun q => c2 ((nI_eq (by omega) (by omega)).mp q))]
        exact main
theorem fill2 {K : Nat} (hK : K ≤ 27) {hold : Nat → Nat} {nr : Nat → Nat → Bool} {r : Int32} {μ0 : sm_Mem} (h35 : μ0.1 146 35 = nI K) (hh : ∀ k, k < K → μ0.1 163 k = nI (hold k)) (hn : NrH K r nr μ0) :
    ∀ (f a : Nat) (μ : sm_Mem), K - a < f → a ≤ K → Fil K hold nr a 0 μ → FrR μ0 μ → T (fnX12_fillRoom_L2 f 146 r (nI a)) μ (fun _ μ' => RmH (2 * K) (Cn hold nr) μ' ∧ FrR μ0 μ') := by
  intro f
  induction f with
  | zero =>
    intro a μ h
    omega
  | succ f ih =>
    intro a μ hf ha hF hr
    have x35 : μ.1 146 35 = nI K := by rw [hr.1 146 (by omega) (by omega) (by omega)]; exact h35
    unfold fnX12_fillRoom_L2
    rw [t_gi, x35]
    by_cases c1 : K ≤ a
    · rw [t_brT (nI_le c1 (by omega)), t_ret]
      exact ⟨fun x y hx hy => hF x y hx hy (by omega), hr⟩
    · rw [t_brF (nI_ge (by omega) (by omega))]
      exact fill12 hK h35 hh hn (by omega) (fun μ' hF' hr' => ih (a + 1) μ' (by omega) (by omega) hF' hr') 4096 0 μ (by omega) (by omega) hF hr
theorem fillRoom_T {K : Nat} (hK : K ≤ 27) {hold : Nat → Nat} {nr : Nat → Nat → Bool} {r : Int32} {μ : sm_Mem} (h35 : μ.1 146 35 = nI K) (hh : ∀ k, k < K → μ.1 163 k = nI (hold k)) (hn : NrH K r nr μ) : T (fnX12_fillRoom 146 r) μ (fun _ μ' => RmH (2 * K) (Cn hold nr) μ' ∧ FrR μ μ') := by
  unfold fnX12_fillRoom
  exact fill2 hK h35 hh hn 4096 0 μ (by omega) (by omega) (fun x y _ _ hc => by omega) ⟨fun _ _ _ _ => rfl, rfl⟩
/-! the flood -/
def FrF (μ0 μ : sm_Mem) : Prop := (∀ a, a ≠ 165 → a ≠ 166 → μ.1 a = μ0.1 a) ∧ μ.2 = μ0.2
def CmH (M : Nat) (vis : Nat → Bool) (par : Nat → Nat) (μ : sm_Mem) : Prop := ∀ b, b < M → μ.1 165 b = if vis b = true then nI (par b) else mI 1
theorem floods2 {M K : Nat} (hM : M = 2 * K) (hK : K ≤ 27) {Q : Bool → sm_Mem → Prop} {μ0 : sm_Mem} (h35 : μ0.1 146 35 = nI K)
    (ex : ∀ μ', (∀ b, b < M → μ'.1 165 b = mI 1) → FrF μ0 μ' → T (fnX12_floods_J25 146) μ' Q) : ∀ (f k : Nat) (μ : sm_Mem), M - k < f → k ≤ M → (∀ b, b < k → μ.1 165 b = mI 1) → FrF μ0 μ → T (fnX12_floods_L2 f 146 (nI k)) μ Q := by
  have e_165 : ln 165 = 54 := rfl
  intro f
  induction f with
  | zero =>
    intro k μ h
    omega
  | succ f ih =>
    intro k μ hf hk hb hr
    have x35 : μ.1 146 35 = nI K := by rw [hr.1 146 (by omega) (by omega)]; exact h35
    unfold fnX12_floods_L2
    rw [t_gi, x35, li_2, pk_mul]
    by_cases c1 : M ≤ k
    · rw [t_brT (nI_le (by omega) (by omega))]
      exact ex μ (fun b hb' => hb b (by omega)) hr
    · rw [t_brF (nI_ge (by omega) (by omega)), lk_146_37, t_sai (by omega), nI_1]
      refine ih (k + 1) _ (by omega) (by omega) ?_ ⟨fun z z1 z2 => by rw [← hr.1 z z1 z2]; simp (disch := omega) only [u2_ne, u2_a, u2_k, u2_at], hr.2⟩
      intro b hb'
      by_cases e : b = k
      · subst e
        show u2 μ.1 165 b (-1) 165 b = mI 1
        rw [u2_at]
        rfl
      · rw [← hb b (by omega)]
        simp (disch := omega) only [u2_ne, u2_a, u2_k, u2_at]
theorem bfs_le {M : Nat} {R : Nat → Nat → Nat} {q : Nat → Nat} {vis : Nat → Bool} {par rk : Nat → Nat} {e : Nat} (h : Bfs M R q vis par rk e) : e ≤ M := by
  refine fb_holes M e q (fun i hi => (h.1 i hi).1) ?_
  intro i j hij hj z
  have a1 := (h.1 i (by omega)).2.2
  have a2 := (h.1 j hj).2.2
  rw [z] at a1
  omega
theorem floods61 {k43 : Nat → Int32 → Int32 → sm_M Bool} {Q : Bool → sm_Mem → Prop} {M K : Nat} (hM : M = 2 * K) (hK : K ≤ 27) {R : Nat → Nat → Nat} (hR9 : ∀ x y, x < M → y < M → R x y < 4096) {μ0 : sm_Mem} (h35 : μ0.1 146 35 = nI K) (hRm : RmH M R μ0) {a bg : Nat} (ha : a < M)
    (ex : ∀ (q : Nat → Nat) (vis : Nat → Bool) (par rk : Nat → Nat) (e : Nat) (μ' : sm_Mem), Bfs M R q vis par rk e → bg ≤ e → (∀ i, i < bg → ∀ b, b < M → R (q i) b = 0 ∨ vis b = true) → CmH M vis par μ' → (∀ i, i < e → μ'.1 166 i = nI (q i)) → FrF μ0 μ' → T (k43 146 (nI bg) (nI e)) μ' Q) :
    ∀ (f b : Nat) (q : Nat → Nat) (vis : Nat → Bool) (par rk : Nat → Nat) (e : Nat) (μ : sm_Mem), M - b < f → b ≤ M → Bfs M R q vis par rk e → bg ≤ e → 1 ≤ bg → q (bg - 1) = a → (∀ i, i + 1 < bg → ∀ b, b < M → R (q i) b = 0 ∨ vis b = true) → (∀ b', b' < b → R a b' = 0 ∨ vis b' = true) → CmH M vis par μ → (∀ i, i < e → μ.1 166 i = nI (q i)) → FrF μ0 μ → T (fnX12_floods_L61 k43 f 146 (nI bg) (nI e) (nI a) (nI b)) μ Q := by
  have e_165 : ln 165 = 54 := rfl
  have e_166 : ln 166 = 54 := rfl
  have e_164 : ln 164 = 2916 := rfl
  intro f
  induction f with
  | zero =>
    intro b q vis par rk e μ h
    omega
  | succ f ih =>
    intro b q vis par rk e μ hf hb hB hbe hb1 hqa hp ha' hC hq hr
    have x35 : μ.1 146 35 = nI K := by rw [hr.1 146 (by omega) (by omega)]; exact h35
    have va : vis a = true := by
      rw [← hqa]
      exact (hB.1 (bg - 1) (by omega)).2.1
    have eM := bfs_le hB
    unfold fnX12_floods_L61
    rw [t_gi, x35, li_2, pk_mul]
    by_cases c1 : M ≤ b
    · rw [t_brT (nI_le (by omega) (by omega))]
      unfold fnX12_floods_J126
      refine ex q vis par rk e μ hB hbe ?_ hC hq hr
      intro i hi b' hb'
      by_cases ci : i + 1 < bg
      · exact hp i ci b' hb'
      · have : i = bg - 1 := by omega
        rw [this, hqa]
        exact ha' b' (by omega)
    · have xc := hC b (by omega)
      have xr : μ.1 164 (54 * a + b) = nI (R a b) := by rw [hr.1 164 (by omega) (by omega)]; exact hRm a b ha (by omega)
      rw [t_brF (nI_ge (by omega) (by omega)), lk_146_37, lk_146_36, lk_146_38, li_54, pk_mul, nI_add, t_ai (by omega), xc]
      unfold fnX12_floods_J120
      cases hv : vis b
      · rw [if_neg (by decide), t_brT m1_mI.symm, t_ai (by omega), xr, nI_1]
        by_cases cr : R a b = 0
        · rw [t_brT (by rw [cr]; rfl)]
          refine ih (b + 1) q vis par rk e μ (by omega) (by omega) hB hbe hb1 hqa hp ?_ hC hq hr
          intro b' hb'
          by_cases cb : b' = b
          · subst cb
            exact Or.inl cr
          · exact ha' b' (by omega)
        · have r9 := hR9 a b ha (by omega)
          have eb := bfs_lt hB (show b < M by omega) hv
          rw [t_brF (show ¬ nI (R a b) = (0 : Int32) from fun z => cr ((nI_eq (b := 0) (by omega) (by omega)).mp z)), t_sai (by omega), t_sai (by omega), nI_1]
          refine ih (b + 1) (up q e b) (fun x => vis x || decide (x = b)) (up par b a) (up rk b e) (e + 1) _ (by omega) (by omega) (bfs_add hB ha (by omega) va hv cr) (by omega) hb1 (by rw [up_ne (by omega)]; exact hqa) ?_ ?_ ?_ ?_ ⟨fun z z1 z2 => by rw [← hr.1 z z1 z2]; simp (disch := omega) only [u2_ne, u2_a, u2_k, u2_at], hr.2⟩
          · intro i hi b' hb'
            rw [up_ne (by omega)]
            rcases hp i hi b' hb' with z | z
            · exact Or.inl z
            · exact Or.inr (by rw [z]; rfl)
          · intro b' hb'
            by_cases cb : b' = b
            · subst cb
              exact Or.inr (by simp)
            · rcases ha' b' (by omega) with z | z
              · exact Or.inl z
              · exact Or.inr (by rw [z]; rfl)
          · intro b' hb'
            by_cases cb : b' = b
            · subst cb
              rw [if_pos (by simp), up_at]
              simp (disch := omega) only [u2_ne, u2_a, u2_k, u2_at]
            · rw [up_ne cb]
              have := hC b' hb'
              simp only [cb, decide_false, Bool.or_false]
              rw [← this]
              simp (disch := omega) only [u2_ne, u2_a, u2_k, u2_at]
          · intro i hi
            by_cases ci : i = e
            · subst ci
              rw [up_at]
              simp (disch := omega) only [u2_ne, u2_a, u2_k, u2_at]
            · rw [up_ne ci, ← hq i (by omega)]
              simp (disch := omega) only [u2_ne, u2_a, u2_k, u2_at]
      · have pb := (hB.2.1 b (by omega) hv).2.2.1
        rw [if_pos rfl, nI_1, t_brF (n_m1 (n := par b) (by omega))]
        refine ih (b + 1) q vis par rk e μ (by omega) (by omega) hB hbe hb1 hqa hp ?_ hC hq hr
        intro b' hb'
        by_cases cb : b' = b
        · subst cb
          exact Or.inr hv
        · exact ha' b' (by omega)
/-- what a flood leaves -/
def FldP (M : Nat) (R : Nat → Nat → Nat) (x : Bool) (μ0 μ : sm_Mem) : Prop := ∃ (q : Nat → Nat) (vis : Nat → Bool) (par rk : Nat → Nat) (e : Nat), Bfs M R q vis par rk e ∧ (∀ a b, a < M → b < M → vis a = true → R a b ≠ 0 → vis b = true) ∧ CmH M vis par μ ∧ x = vis 2 ∧ FrF μ0 μ
theorem floods43 {M K : Nat} (hM : M = 2 * K) (hK : K ≤ 27) (hK2 : 2 ≤ K) {R : Nat → Nat → Nat} (hR9 : ∀ x y, x < M → y < M → R x y < 4096) {μ0 : sm_Mem} (h35 : μ0.1 146 35 = nI K) (hRm : RmH M R μ0) :
    ∀ (f bg : Nat) (q : Nat → Nat) (vis : Nat → Bool) (par rk : Nat → Nat) (e : Nat) (μ : sm_Mem), M - bg < f → bg ≤ e → Bfs M R q vis par rk e → (∀ i, i < bg → ∀ b, b < M → R (q i) b = 0 ∨ vis b = true) → CmH M vis par μ → (∀ i, i < e → μ.1 166 i = nI (q i)) → FrF μ0 μ → T (fnX12_floods_L43 f 146 (nI bg) (nI e)) μ (fun x μ' => FldP M R x μ0 μ') := by
  have e_165 : ln 165 = 54 := rfl
  have e_166 : ln 166 = 54 := rfl
  intro f
  induction f with
  | zero =>
    intro bg q vis par rk e μ h
    omega
  | succ f ih =>
    intro bg q vis par rk e μ hf hbe hB hp hC hq hr
    have eM := bfs_le hB
    unfold fnX12_floods_L43
    by_cases c1 : e ≤ bg
    · rw [t_brT (nI_le c1 (by omega))]
      unfold fnX12_floods_J129
      have x2 := hC 2 (by omega)
      have all : ∀ a b, a < M → b < M → vis a = true → R a b ≠ 0 → vis b = true := by
        intro a b ha hb hv hR
        obtain ⟨k1, k2, -, -⟩ := hB.2.1 a ha hv
        rcases hp (rk a) (by omega) b hb with z | z
        · rw [k2] at z
          exact absurd z hR
        · exact z
      rw [lk_146_37, li_2, t_ai (by omega), x2]
      cases hv : vis 2
      · rw [if_neg (by decide), t_brT m1_mI.symm, t_ret]
        exact ⟨q, vis, par, rk, e, hB, all, hC, hv.symm, hr⟩
      · have pb := (hB.2.1 2 (by omega) hv).2.2.1
        rw [if_pos rfl, t_brF (n_m1 (n := par 2) (by omega)), t_ret]
        exact ⟨q, vis, par, rk, e, hB, all, hC, hv.symm, hr⟩
    · have xq := hq bg (by omega)
      obtain ⟨q1, q2, q3⟩ := hB.1 bg (by omega)
      rw [t_brF (nI_ge (by omega) (by omega)), lk_146_38, t_ai (by omega), xq, nI_1]
      refine floods61 hM hK hR9 h35 hRm (a := q bg) (bg := bg + 1) q1 ?_ 4096 0 q vis par rk e μ (by omega) (by omega) hB (by omega) (by omega) rfl (fun i hi => hp i (by omega)) (fun b' hb' => by omega) hC hq hr
      intro q' vis' par' rk' e' μ' hB' hbe' hp' hC' hq' hr'
      exact ih (bg + 1) q' vis' par' rk' e' μ' (by omega) hbe' hB' hp' hC' hq' hr'
theorem floods_T {M K : Nat} (hM : M = 2 * K) (hK : K ≤ 27) (hK2 : 2 ≤ K) {R : Nat → Nat → Nat} (hR9 : ∀ x y, x < M → y < M → R x y < 4096) {μ : sm_Mem} (h35 : μ.1 146 35 = nI K) (hRm : RmH M R μ) : T (fnX12_floods 146) μ (fun x μ' => FldP M R x μ μ') := by
  have e_165 : ln 165 = 54 := rfl
  have e_166 : ln 166 = 54 := rfl
  unfold fnX12_floods
  refine floods2 hM hK (μ0 := μ) h35 ?_ 4096 0 μ (by omega) (by omega) (fun b hb => by omega) ⟨fun _ _ _ => rfl, rfl⟩
  intro μ1 h1 hr
  unfold fnX12_floods_J25
  rw [lk_146_38, lk_146_37, li_0, li_1, t_sai (by omega), t_sai (by omega)]
  refine floods43 hM hK hK2 hR9 (μ0 := μ) h35 hRm 4096 0 (fun _ => 1) (fun x => decide (x = 1)) (fun _ => 1) (fun _ => 0) 1 _ (by omega) (by omega) ?_ (fun i hi => by omega) ?_ ?_ ⟨fun z z1 z2 => by rw [← hr.1 z z1 z2]; simp (disch := omega) only [u2_ne, u2_a, u2_k, u2_at], hr.2⟩
  · refine ⟨fun i hi => ⟨(by show 1 < M; omega), rfl, (by show 0 = i; omega)⟩, ?_, rfl, ?_⟩
    · intro b hb hv
      have := of_decide_eq_true hv
      subst this
      exact ⟨(by show 0 < 1; omega), rfl, (by show 1 < M; omega), Or.inl rfl⟩
    · intro X x1 _ a _ hv
      have := of_decide_eq_true hv
      subst this
      exact x1
  · intro b hb
    by_cases c : b = 1
    · subst c
      show u2 (u2 μ1.1 166 0 (nI 1)) 165 1 (nI 1) 165 1 = nI 1
      simp (disch := omega) only [u2_ne, u2_a, u2_k, u2_at]
    · rw [if_neg (by simp [c]), ← h1 b hb]
      simp (disch := omega) only [u2_ne, u2_a, u2_k, u2_at]
  · intro i hi
    have : i = 0 := by omega
    subst this
    simp (disch := omega) only [u2_ne, u2_a, u2_k, u2_at]
/-! one more after another -/
theorem flow30 {k21 : Nat → Int32 → sm_M Int32} {Q : Int32 → sm_Mem → Prop} {M K : Nat} (hM : M = 2 * K) (hK : K ≤ 27) (hK2 : 2 ≤ K) {R0 : Nat → Nat → Nat} {q : Nat → Nat} {vis : Nat → Bool} {par rk : Nat → Nat} {e : Nat} (B : Bfs M R0 q vis par rk e) (hs : ∀ x y, x < M → y < M → R0 x y + R0 y x < 4096) {μ0 : sm_Mem} (hC : CmH M vis par μ0) {n : Nat}
    (ex : ∀ (R : Nat → Nat → Nat) (μ' : sm_Mem), Aug M R0 R vis par rk 1 → RmH M R μ' → (∀ a, a ≠ 164 → μ'.1 a = μ0.1 a) → μ'.2 = μ0.2 → T (k21 146 (nI (n + 1))) μ' Q) :
    ∀ (f b : Nat) (R : Nat → Nat → Nat) (μ : sm_Mem), rk b < f → b < M → vis b = true → Aug M R0 R vis par rk b → RmH M R μ → (∀ a, a ≠ 164 → μ.1 a = μ0.1 a) → μ.2 = μ0.2 → T (fnX12_flow_L30 k21 f 146 (nI n) (nI b)) μ Q := by
  have e_165 : ln 165 = 54 := rfl
  have e_164 : ln 164 = 2916 := rfl
  intro f
  induction f with
  | zero =>
    intro b R μ h
    omega
  | succ f ih =>
    intro b R μ hf hb hv hA hRm ho h2
    unfold fnX12_flow_L30
    by_cases c : b = 1
    · subst c
      rw [t_brT (by decide)]
      unfold fnX12_flow_J81
      rw [nI_1]
      exact ex R μ hA hRm ho h2
    · obtain ⟨-, -, p1, b3⟩ := B.2.1 b hb hv
      obtain ⟨p2, p3, -⟩ := b3.resolve_left c
      have pos := hA.2.2 b hb hv c (Nat.le_refl _)
      have hne : par b ≠ b := fun z => by rw [z] at p3; omega
      have x1 : μ.1 165 b = nI (par b) := by
        rw [ho 165 (by omega), hC b hb, if_pos hv]
      have x2 := hRm (par b) b p1 hb
      have x3 := hRm b (par b) hb p1
      have sm := hA.1 (par b) b p1 hb
      have sb := hs (par b) b p1 hb
      have y3 : (u2 μ.1 164 (54 * par b + b) (nI (R (par b) b - 1)), μ.2).1 164 (54 * b + par b) = nI (R b (par b)) := by
        rw [← x3]
        simp (disch := omega) only [u2_ne, u2_a, u2_k, u2_at]
      rw [t_brF (show ¬ nI b = (1 : Int32) from fun z => c ((nI_eq (b := 1) (by omega) (by omega)).mp z)), lk_146_37, lk_146_36, t_ai (by omega), x1, li_54, li_1, pk_mul, pk_mul, nI_add, nI_add, t_ai (by omega), x2, t_sai (by omega), pk_sub (by omega), t_ai (by omega), y3, t_sai (by omega), nI_add]
      refine ih (par b) (rmv R (par b) b) _ (by omega) p1 p2 (aug_step B hA hb hv c) ?_ ?_ h2
      · intro x y hx hy
        by_cases c1 : x = par b ∧ y = b
        · obtain ⟨rfl, rfl⟩ := c1
          have : rmv R (par y) y (par y) y = R (par y) y - 1 := by
            unfold rmv
            rw [if_pos rfl, up_at]
          rw [this]
          simp (disch := omega) only [u2_ne, u2_a, u2_k, u2_at]
        · by_cases c2 : x = b ∧ y = par b
          · obtain ⟨rfl, rfl⟩ := c2
            have : rmv R (par x) x x (par x) = R x (par x) + 1 := by
              unfold rmv
              rw [if_neg (fun z => hne z.symm), if_pos rfl, up_at]
            rw [this]
            simp (disch := omega) only [u2_ne, u2_a, u2_k, u2_at]
          · have : rmv R (par b) b x y = R x y := by
              unfold rmv
              by_cases d1 : x = par b
              · rw [if_pos d1, up_ne (fun z => c1 ⟨d1, z⟩), d1]
              · rw [if_neg d1]
                by_cases d2 : x = b
                · rw [if_pos d2, up_ne (fun z => c2 ⟨d2, z⟩), d2]
                · rw [if_neg d2]
            rw [this, ← hRm x y hx hy]
            simp (disch := omega) only [u2_ne, u2_a, u2_k, u2_at]
      · intro a ha
        rw [← ho a ha]
        simp (disch := omega) only [u2_ne, u2_a, u2_k, u2_at]
theorem cn_small (hold : Nat → Nat) (nr : Nat → Nat → Bool) (hh : ∀ k, hold k ≤ 999) (a b : Nat) : Cn hold nr a b ≤ 999 := by
  unfold Cn
  have := hh (a / 2)
  split
  · split <;> omega
  · split <;> omega
/-- what a full flow leaves -/
def FlwP (n : Nat) (hold : Nat → Nat) (nr : Nat → Nat → Bool) (x : Int32) (μ0 μ : sm_Mem) : Prop := ∃ (v : Nat) (S : Nat → Bool), x = nI v ∧ v ≤ n * 9 ∧ MinC n (fun s => hold (s + 2)) (nNear nr) (nFar nr) (nAdj nr) v (fun s => S (2 * (s + 2))) (fun s => S (2 * (s + 2) + 1)) ∧ (∀ b, b < 2 * (n + 2) → (μ.1 165 b = mI 1 ↔ S b = false)) ∧ FrR μ0 μ
theorem flow21 {n : Nat} (hn : n ≤ 25) {hold : Nat → Nat} {nr : Nat → Nat → Bool} (hh : ∀ k, hold k ≤ 999) (hh9 : ∀ s, s < n → hold (s + 2) ≤ 9) (h01 : nr 0 1 = false) (h10 : nr 1 0 = false) {μ0 : sm_Mem} (h35 : μ0.1 146 35 = nI (n + 2)) :
    ∀ (f v : Nat) (R : Nat → Nat → Nat) (μ : sm_Mem), 226 - v < f → RI (2 * (n + 2)) (Cn hold nr) R v → RmH (2 * (n + 2)) R μ → FrR μ0 μ → T (fnX12_flow_L21 f 146 (nI v)) μ (fun x μ' => FlwP n hold nr x μ0 μ') := by
  intro f
  induction f with
  | zero =>
    intro v R μ h
    omega
  | succ f ih =>
    intro v R μ hf hI hRm hr
    have vb := ri_bound hI hh9 h01
    have x35 : μ.1 146 35 = nI (n + 2) := by rw [hr.1 146 (by omega) (by omega) (by omega)]; exact h35
    have small : ∀ x y, x < 2 * (n + 2) → y < 2 * (n + 2) → R x y + R y x < 4096 := by
      intro x y hx hy
      rw [hI.1 x y hx hy]
      have := cn_small hold nr hh x y
      have := cn_small hold nr hh y x
      omega
    unfold fnX12_flow_L21
    rw [t_bnd]
    refine t_mono (floods_T (M := 2 * (n + 2)) rfl (by omega) (by omega) (fun x y hx hy => by have := small x y hx hy; omega) x35 hRm) ?_
    rintro x μ1 ⟨q, vis, par, rk, e, hB, hcl, hC, rfl, hr1⟩
    have hRm1 : RmH (2 * (n + 2)) R μ1 := fun x y hx hy => by rw [hr1.1 164 (by omega) (by omega)]; exact hRm x y hx hy
    have hr2 : FrR μ0 μ1 := ⟨fun a z1 z2 z3 => (hr1.1 a z2 z3).trans (hr.1 a z1 z2 z3), hr1.2.trans hr.2⟩
    cases hv : vis 2
    · rw [t_brT (by decide), t_ret]
      refine ⟨v, vis, rfl, vb, ri_done hI hh9 h01 h10 hB.2.2.1 hv hcl hB.2.2.2, ?_, hr2⟩
      intro b hb
      rw [hC b hb]
      cases hvb : vis b
      · simp
      · have pb := (hB.2.1 b hb hvb).2.2.1
        rw [if_pos rfl]
        constructor
        · intro z
          exact absurd z (mI1_ne (by omega))
        · intro z
          cases z
    · rw [t_brF (by decide), li_2]
      have r2 := (hB.2.1 2 (by omega) hv).1
      have eM := bfs_le hB
      refine flow30 (M := 2 * (n + 2)) rfl (by omega) (by omega) hB small (μ0 := μ1) hC ?_ 4096 2 R μ1 (by omega) (by omega) hv (aug_start hB) hRm1 (fun _ _ => rfl) rfl
      intro R' μ2 hA hRm2 ho2 h22
      have vb' := ri_bound (aug_end hI hA (by omega)) hh9 h01
      exact ih (v + 1) R' μ2 (by omega) (aug_end hI hA (by omega)) hRm2 ⟨fun a z1 z2 z3 => (ho2 a z1).trans (hr2.1 a z1 z2 z3), h22.trans hr2.2⟩
theorem flow_T {n : Nat} (hn : n ≤ 25) {hold : Nat → Nat} {nr : Nat → Nat → Bool} {r : Int32} (hh : ∀ k, hold k ≤ 999) (hh9 : ∀ s, s < n → hold (s + 2) ≤ 9) (h01 : nr 0 1 = false) (h10 : nr 1 0 = false) {μ : sm_Mem} (h35 : μ.1 146 35 = nI (n + 2)) (h163 : ∀ k, k < n + 2 → μ.1 163 k = nI (hold k)) (hN : NrH (n + 2) r nr μ) : T (fnX12_flow 146 r) μ (fun x μ' => FlwP n hold nr x μ μ') := by
  unfold fnX12_flow
  have h := hN μ ⟨fun _ _ _ _ => rfl, rfl⟩ 0 1 (by omega) (by omega)
  rw [li_0, li_1, t_bnd, t_eq h, h01, t_brT (by decide), t_bnd]
  refine t_mono (fillRoom_T (K := n + 2) (by omega) h35 h163 hN) ?_
  rintro - μ1 ⟨a1, a2⟩
  exact flow21 hn hh hh9 h01 h10 h35 4096 0 (Cn hold nr) μ1 (by omega) (ri_start _ _) a1 a2
theorem flow_T999 {n : Nat} {nr : Nat → Nat → Bool} {r : Int32} (h01 : nr 0 1 = true) {μ : sm_Mem} (hN : NrH (n + 2) r nr μ) : fnX12_flow 146 r μ = some (nI 999, μ) := by
  unfold fnX12_flow
  have h := hN μ ⟨fun _ _ _ _ => rfl, rfl⟩ 0 1 (by omega) (by omega)
  rw [li_0, li_1, e_b h, h01, e_F (by decide)]
  rfl
