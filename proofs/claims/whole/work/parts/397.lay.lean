/-! ===== NETWORKS OF SPOTS ===== -/
def zNear (pr : Nat → Bool) (gy : Nat → Nat) (r s : Nat) : Bool := pr s && gNear gy r s
def zFar (pr : Nat → Bool) (W : Nat) (gy : Nat → Nat) (r s : Nat) : Bool := pr s && gFar W gy r s
def zAdj (pr : Nat → Bool) (gx gy : Nat → Nat) (r s t : Nat) : Bool := (pr s && pr t) && gAdj gx gy r s t
def zB (pr : Nat → Bool) (b : Nat → Nat) (s : Nat) : Nat := if pr s = true then b s else 0
/-- the same network by other numbers -/
theorem minC_map {m : Nat} {ρ inv : Nat → Nat} {pr : Nat → Bool} (hρ : ∀ k, k < m → ρ k < 25 ∧ pr (ρ k) = true ∧ inv (ρ k) = k) (hinv : ∀ s, s < 25 → pr s = true → inv s < m ∧ ρ (inv s) = s) (hsum : ∀ F : Nat → Nat, (∀ s, s < 25 → pr s = false → F s = 0) → fb_sm F 25 = fb_sm (fun k => F (ρ k)) m)
    {b : Nat → Nat} {near far : Nat → Bool} {adj : Nat → Nat → Bool} (hz : ∀ s, s < 25 → pr s = false → b s = 0 ∧ near s = false) (ha : ∀ s t, adj s t = true → pr t = true) {v : Nat} {E L : Nat → Bool}
    (H : MinC m (fun k => b (ρ k)) (fun k => near (ρ k)) (fun k => far (ρ k)) (fun k l => adj (ρ k) (ρ l)) v E L) : MinC 25 b near far adj v (fun s => pr s && E (inv s)) (fun s => pr s && L (inv s)) := by
  obtain ⟨h1, h2, h3, h4⟩ := H
  have cap : ∀ E' L' : Nat → Bool, capOf 25 b E' L' = capOf m (fun k => b (ρ k)) (fun k => E' (ρ k)) (fun k => L' (ρ k)) := by
    intro E' L'
    unfold capOf
    rw [hsum (fun s => nd (E' s && !L' s) (b s))]
    intro s hs hp
    rw [(hz s hs hp).1]
    cases (E' s && !L' s) <;> rfl
  have back : ∀ E' L' : Nat → Bool, Ct 25 near far adj E' L' → Ct m (fun k => near (ρ k)) (fun k => far (ρ k)) (fun k l => adj (ρ k) (ρ l)) (fun k => E' (ρ k)) (fun k => L' (ρ k)) := by
    intro E' L' c k hk
    obtain ⟨c1, c2, c3⟩ := c (ρ k) (hρ k hk).1
    exact ⟨c1, c2, fun l hl => c3 (ρ l) (hρ l hl).1⟩
  refine ⟨?_, ?_, ?_, ?_⟩
  · intro s hs
    cases hp : pr s
    · refine ⟨fun hn => ?_, fun hL => ?_, fun t ht hL => ?_⟩
      · rw [(hz s hs hp).2] at hn
        cases hn
      · have hL : (pr s && L (inv s)) = true := hL
        rw [hp] at hL
        cases hL
      · have hL : (pr s && L (inv s)) = true := hL
        rw [hp] at hL
        cases hL
    · obtain ⟨i1, i2⟩ := hinv s hs hp
      obtain ⟨c1, c2, c3⟩ := h1 (inv s) i1
      simp only [i2] at c1 c2 c3
      refine ⟨fun hn => ?_, fun hL => ?_, fun t ht hL hadj => ?_⟩
      · show (pr s && E (inv s)) = true
        rw [hp, c1 hn]
        rfl
      · have hL : (pr s && L (inv s)) = true := hL
        rw [hp, Bool.true_and] at hL
        exact c2 hL
      · have hL : (pr s && L (inv s)) = true := hL
        rw [hp, Bool.true_and] at hL
        have pt := ha s t hadj
        obtain ⟨j1, j2⟩ := hinv t ht pt
        show (pr t && E (inv t)) = true
        rw [pt, c3 (inv t) j1 hL (by rw [j2]; exact hadj)]
        rfl
  · rw [cap, ← h2]
    apply cap_cong
    intro k hk
    obtain ⟨r1, r2, r3⟩ := hρ k hk
    refine ⟨rfl, ?_, ?_⟩
    · show (pr (ρ k) && E (inv (ρ k))) = E k
      rw [r2, r3]
      rfl
    · show (pr (ρ k) && L (inv (ρ k))) = L k
      rw [r2, r3]
      rfl
  · intro E' L' c
    rw [cap]
    exact h3 _ _ (back E' L' c)
  · intro E' L' c e
    rw [cap] at e
    have key := h4 _ _ (back E' L' c) e
    intro s hs
    refine ⟨fun hE => ?_, fun hL => ?_⟩
    · have hE : (pr s && E (inv s)) = true := hE
      simp only [Bool.and_eq_true] at hE
      obtain ⟨i1, i2⟩ := hinv s hs hE.1
      have := (key (inv s) i1).1 hE.2
      rw [i2] at this
      exact this
    · have hL : (pr s && L (inv s)) = true := hL
      simp only [Bool.and_eq_true] at hL
      obtain ⟨i1, i2⟩ := hinv s hs hL.1
      have := (key (inv s) i1).2 hL.2
      rw [i2] at this
      exact this
noncomputable def mcV (b : Nat → Nat) (near far : Nat → Bool) (adj : Nat → Nat → Bool) : Nat := Classical.epsilon (fun v => ∃ E L, MinC 25 b near far adj v E L)
theorem mcV_eq {b : Nat → Nat} {near far : Nat → Bool} {adj : Nat → Nat → Bool} {v : Nat} {E L : Nat → Bool} (H : MinC 25 b near far adj v E L) : mcV b near far adj = v := by
  obtain ⟨E', L', H'⟩ := Classical.epsilon_spec (p := fun v => ∃ E L, MinC 25 b near far adj v E L) ⟨v, E, L, H⟩
  exact (minC_one H' H).1
noncomputable def netV (pr : Nat → Bool) (gx gy b : Nat → Nat) (W r : Nat) : Nat := mcV (zB pr b) (zNear pr gy r) (zFar pr W gy r) (zAdj pr gx gy r)
def prW (w : Nat → Nat) (s : Nat) : Bool := decide (s < w 3)
theorem zAdj_self (pr : Nat → Bool) (gx gy : Nat → Nat) (r s : Nat) : zAdj pr gx gy r s s = false := by
  unfold zAdj gAdj
  rw [decide_eq_false (fun z => z.1 rfl), Bool.and_false]
/-! the component lays the stones -/
theorem lks_near {w : Nat → Nat} {μ : sm_Mem} (hG : Good w) (hL : LKS w μ) {r : Nat} (h1 : 1 ≤ r) (h9 : r ≤ 9) : (∀ s, s < 32 → bt (μ.1 33 r) s = (decide (s < 25) && zNear (prW w) (sy w) r s) ∧ bt (μ.1 34 r) s = (decide (s < 25) && zFar (prW w) (w 1) (sy w) r s)) ∧ ∀ s, s < 24 → ∀ t, t < 32 → bt (μ.1 35 (24 * r + s)) t = (decide (t < 25) && zAdj (prW w) (sx w) (sy w) r s t) := by
  have n := hG.1
  refine ⟨fun s hs => ?_, fun s hs t ht => ?_⟩
  · obtain ⟨l1, l2, -⟩ := hL r h1 h9 s hs
    rw [l1, l2]
    unfold zNear zFar prW
    by_cases c : s < w 3
    · have g := hG.2.2.2.1 s c
      rw [decide_eq_true c, decide_eq_true (show s < 25 by omega), stp_near (by omega), stp_far (by omega) (by omega)]
      exact ⟨rfl, rfl⟩
    · rw [decide_eq_false c]
      simp
  · have l3 := (hL r h1 h9 t ht).2.2 s hs
    rw [l3]
    unfold adw zAdj prW
    by_cases c : s < w 3 ∧ t < w 3
    · rw [decide_eq_true c, decide_eq_true c.1, decide_eq_true c.2, decide_eq_true (show t < 25 by omega)]
      unfold stp gAdj gSq sq yOf sx sy
      rw [if_neg (show ¬ (98 ≤ s ∨ 98 ≤ t) by omega), if_neg (show ¬ s = 98 by omega), if_neg (show ¬ s = 99 by omega), if_neg (show ¬ t = 98 by omega), if_neg (show ¬ t = 99 by omega)]
      rfl
    · rw [decide_eq_false c]
      by_cases c2 : s < w 3
      · rw [decide_eq_false (show ¬ t < w 3 from fun z => c ⟨c2, z⟩)]
        simp
      · rw [decide_eq_false c2]
        simp
def FrY (μ0 μ : sm_Mem) : Prop := (∀ a, (a < 76 ∨ 83 ≤ a) → μ.1 a = μ0.1 a) ∧ (∀ k, k ≠ 7 → μ.1 76 k = μ0.1 76 k) ∧ μ.2 = μ0.2
theorem fill_T {r n : Nat} (hn : ln r = n) {x : Int32} {μ : sm_Mem} {Q : Unit → sm_Mem → Prop} (h : ∀ μ' : sm_Mem, (∀ k, k < n → μ'.1 r k = x) → (∀ a, a ≠ r → μ'.1 a = μ.1 a) → μ'.2 = μ.2 → Q () μ') : T (fnJ7_fill_53178 r x) μ Q := by
  rw [t_eq (fill_eq r x μ)]
  refine h _ ?_ ?_ rfl
  · intro k hk
    show u1 μ.1 r _ r k = x
    rw [u1_at, if_pos (by omega)]
  · intro a ha
    show u1 μ.1 r _ a = μ.1 a
    unfold u1
    rw [if_neg ha]
theorem lay75 {c : Nat} (hc : isSc c) {w : Nat → Nat} (hG : Good w) {r wt : Nat} (h1 : 1 ≤ r) (h9 : r ≤ 9) (hw : 1 ≤ wt) (hw2 : wt < 100) {μ0 : sm_Mem} (hR : RH 14 w μ0) (hS : SH c w μ0) (hL : LKS w μ0) (h7 : μ0.1 76 7 = nI r) :
    ∀ (f s : Nat) (μ : sm_Mem), w 3 - s < f → s ≤ w 3 → (∀ a, a ≠ 78 → a ≠ 79 → μ.1 a = μ0.1 a) → μ.2 = μ0.2 → (∀ k, k < 25 → (k < s → μ.1 78 k = μ0.1 35 (24 * r + k) ∧ μ.1 79 k = nI (lf w k / wt)) ∧ (s ≤ k → μ.1 78 k = 0 ∧ μ.1 79 k = 0)) →
    T (fnX2_lay_L75 f 76 c (nI wt) (nI s)) μ (fun _ μ' => (∀ a, a ≠ 78 → a ≠ 79 → μ'.1 a = μ0.1 a) ∧ μ'.2 = μ0.2 ∧ ∀ k, k < 25 → (k < w 3 → μ'.1 78 k = μ0.1 35 (24 * r + k) ∧ μ'.1 79 k = nI (lf w k / wt)) ∧ (w 3 ≤ k → μ'.1 78 k = 0 ∧ μ'.1 79 k = 0)) := by
  obtain ⟨k0, -, -, -, -, -, -⟩ := sc_lk hc
  have n := hG.1
  have e_35 : ln 35 = 240 := rfl
  have e_78 : ln 78 = 25 := rfl
  have e_79 : ln 79 = 25 := rfl
  have hcc : (c + 4 ≤ 78 ∨ 80 ≤ c) := by
    unfold isSc at hc
    simp only [List.mem_cons, List.not_mem_nil, or_false] at hc
    omega
  intro f
  induction f with
  | zero =>
    intro s μ h
    omega
  | succ f ih =>
    intro s μ hf hs ho h2 hk
    have hR1 : RH 14 w μ := rh_fr (fun a q1 q2 => ho a (by omega) (by omega)) hR
    have r4 := hR1.1.2.2.2.2.1
    unfold fnX2_lay_L75
    rw [k0, t_gi, r4]
    by_cases c1 : w 3 ≤ s
    · have : s = w 3 := by omega
      subst this
      rw [t_brT (nI_le c1 (by omega)), t_ret]
      exact ⟨ho, h2, hk⟩
    · have x7 : μ.1 76 7 = nI r := by rw [ho 76 (by omega) (by omega)]; exact h7
      have l9 := lf_le hG (show s < w 3 by omega)
      rw [t_brF (nI_ge (by omega) (by omega)), t_gi, x7, lk_76_0, lk_76_1, lk_32_2, lk_77_5, lk_77_6, li_24, pk_mul, nI_add, t_ai (by omega), t_sai (by omega), t_brF (show ¬ nI wt ≤ 0 from nI_ge (a := 0) (by omega) (by omega))]
      have hR2 : RH 14 w (u2 μ.1 78 s (μ.1 35 (r * 24 + s)), μ.2) := rh_fr (μ := μ0) (fun a q1 q2 => by rw [← ho a (by omega) (by omega)]; simp (disch := omega) only [u2_ne, u2_a, u2_k, u2_at]) hR
      have hS2 : SH c w (u2 μ.1 78 s (μ.1 35 (r * 24 + s)), μ.2) := sh_fr (μ := μ0) (fun a q1 q2 => by rw [← ho a (by omega) (by omega)]; simp (disch := omega) only [u2_ne, u2_a, u2_k, u2_at]) hS
      rw [t_bnd, t_eq (leftOf_eq hR2 hS2 hc hG (by omega)), t_gd (show ¬ nI wt = 0 from fun q => by have := (nI_eq (b := 0) (by omega) (by omega)).mp q; omega), pk_div (by omega) (by omega) (by omega)]
      unfold fnX2_lay_J140
      rw [t_sai (by omega), nI_1]
      refine ih (s + 1) _ (by omega) (by omega) ?_ h2 ?_
      · intro a a1 a2
        rw [← ho a a1 a2]
        simp (disch := omega) only [u2_ne, u2_a, u2_k, u2_at]
      · intro k hk25
        obtain ⟨q1, q2⟩ := hk k hk25
        refine ⟨fun z => ?_, fun z => ?_⟩
        · by_cases e : k = s
          · subst e
            have x35 := ho 35 (by omega) (by omega)
            refine ⟨?_, (by simp (disch := omega) only [u2_ne, u2_a, u2_k, u2_at])⟩
            rw [← x35, show 24 * r + k = r * 24 + k by omega]
            simp (disch := omega) only [u2_ne, u2_a, u2_k, u2_at]
          · obtain ⟨y1, y2⟩ := q1 (by omega)
            rw [← y1, ← y2]
            exact ⟨(by simp (disch := omega) only [u2_ne, u2_a, u2_k, u2_at]), (by simp (disch := omega) only [u2_ne, u2_a, u2_k, u2_at])⟩
        · obtain ⟨y1, y2⟩ := q2 (by omega)
          rw [← y1]
          refine ⟨(by simp (disch := omega) only [u2_ne, u2_a, u2_k, u2_at]), ?_⟩
          rw [y1, ← y2]
          simp (disch := omega) only [u2_ne, u2_a, u2_k, u2_at]
