/-! ===== THE COMPONENT'S SEARCH ===== -/
def NtH (c : Nat) (near far : Nat → Bool) (adj : Nat → Nat → Bool) (b g : Nat → Nat) (h : Nat → Nat → Nat) (μ : sm_Mem) : Prop :=
  (∀ s, s < 32 → bt (μ.1 c 0) s = (decide (s < 25) && near s) ∧ bt (μ.1 c 1) s = (decide (s < 25) && far s)) ∧
  ∀ s, s < 25 → (∀ t, t < 32 → bt (μ.1 (c + 1) s) t = (decide (t < 25) && adj s t)) ∧ μ.1 (c + 2) s = nI (b s) ∧ μ.1 (c + 3) s = nI (g s) ∧ (∀ t, t < 25 → μ.1 (c + 4) (s * 25 + t) = nI (h s t)) ∧ ∀ t, t < 32 → bt (μ.1 (c + 5) s) t = (decide (t < 25) && decide (0 < h t s))
theorem ntH_fr {c : Nat} {near far : Nat → Bool} {adj : Nat → Nat → Bool} {b g : Nat → Nat} {h : Nat → Nat → Nat} {μ μ' : sm_Mem} (h0 : μ'.1 c 0 = μ.1 c 0) (h1 : μ'.1 c 1 = μ.1 c 1) (ho : ∀ a, c < a → a < c + 6 → μ'.1 a = μ.1 a) (H : NtH c near far adj b g h μ) : NtH c near far adj b g h μ' := by
  unfold NtH at H ⊢
  rw [h0, h1, ho (c + 1) (by omega) (by omega), ho (c + 2) (by omega) (by omega), ho (c + 3) (by omega) (by omega), ho (c + 4) (by omega) (by omega), ho (c + 5) (by omega) (by omega)]
  exact H
def eFr (s p : Nat) : Int32 := if p = 64 then mI 1 else if p = 32 + s then mI 2 else nI (p - 32)
def xFr (s p : Nat) : Int32 := if p = s then mI 2 else nI p
def SrH (q : Nat → Nat) (vis : Nat → Bool) (par : Nat → Nat) (e : Nat) (μ : sm_Mem) : Prop :=
  μ.1 76 6 = nI e ∧ (∀ i, i < e → μ.1 91 i = nI (q i)) ∧ (∀ s, s < 25 → vis s = true → μ.1 89 s = eFr s (par s)) ∧ ∀ s, s < 25 → vis (32 + s) = true → μ.1 90 s = xFr s (par (32 + s))
def MkE (vis : Nat → Bool) (μ : sm_Mem) : Prop := ∀ s, s < 32 → bt (μ.1 77 3) s = (decide (s < 25) && vis s)
def MkL (vis : Nat → Bool) (μ : sm_Mem) : Prop := ∀ s, s < 32 → bt (μ.1 77 4) s = (decide (s < 25) && vis (32 + s))
def FrS (μ0 μ : sm_Mem) : Prop := (∀ a, a ≠ 76 → a ≠ 77 → (a < 89 ∨ 92 ≤ a) → μ.1 a = μ0.1 a) ∧ (∀ k, k ≠ 6 → μ.1 76 k = μ0.1 76 k) ∧ (∀ k, k ≠ 3 → k ≠ 4 → μ.1 77 k = μ0.1 77 k) ∧ μ.2 = μ0.2
theorem frS_rf (μ : sm_Mem) : FrS μ μ := ⟨fun _ _ _ _ => rfl, fun _ _ => rfl, fun _ _ _ => rfl, rfl⟩
theorem frS_tr {μ μ1 μ2 : sm_Mem} (h : FrS μ μ1) (h' : FrS μ1 μ2) : FrS μ μ2 := ⟨fun a q1 q2 q3 => (h'.1 a q1 q2 q3).trans (h.1 a q1 q2 q3), fun k q => (h'.2.1 k q).trans (h.2.1 k q), fun k q1 q2 => (h'.2.2.1 k q1 q2).trans (h.2.2.1 k q1 q2), h'.2.2.2.trans h.2.2.2⟩
theorem frS_nt {near far : Nat → Bool} {adj : Nat → Nat → Bool} {b g : Nat → Nat} {h : Nat → Nat → Nat} {μ μ' : sm_Mem} (f : FrS μ μ') (H : NtH 77 near far adj b g h μ) : NtH 77 near far adj b g h μ' := ntH_fr (f.2.2.1 0 (by omega) (by omega)) (f.2.2.1 1 (by omega) (by omega)) (fun a q1 q2 => f.1 a (by omega) (by omega) (by omega)) H
/-- so much of the mask has been entered -/
def enV (vis0 : Nat → Bool) (come : Int32) (j c : Nat) : Bool := vis0 c || (decide (c < 25 ∧ c < j) && bt come c)
def leV (vis0 : Nat → Bool) (come : Int32) (j c : Nat) : Bool := vis0 c || (decide (32 ≤ c ∧ c < 57 ∧ c - 32 < j) && bt come (c - 32))
theorem sb_cong {near : Nat → Bool} {ed : Nat → Nat → Prop} {q : Nat → Nat} {vis vis' : Nat → Bool} {par rk : Nat → Nat} {e : Nat} (h : ∀ c, vis c = vis' c) (H : Sb near ed q vis par rk e) : Sb near ed q vis' par rk e := by
  have : vis = vis' := funext h
  rw [← this]
  exact H
theorem srH_cong {q : Nat → Nat} {vis vis' : Nat → Bool} {par : Nat → Nat} {e : Nat} {μ : sm_Mem} (h : ∀ c, vis c = vis' c) (H : SrH q vis par e μ) : SrH q vis' par e μ := by
  have : vis = vis' := funext h
  rw [← this]
  exact H
theorem enter_L {near : Nat → Bool} {E : Nat → Nat → Prop} {vis0 : Nat → Bool} {come fr : Int32} {a : Nat} (hc : ∀ i, 25 ≤ i → i < 32 → bt come i = false) (hv0 : ∀ s, s < 25 → bt come s = true → vis0 s = false) (hR : ∀ s, s < 25 → bt come s = true → ((a = 64 ∧ near s = true) ∨ (vd a ∧ vis0 a = true ∧ E a s)) ∧ fr = eFr s a) {μ0 : sm_Mem} :
    ∀ (f j : Nat) (r : Int32) (q : Nat → Nat) (vis : Nat → Bool) (par rk : Nat → Nat) (e : Nat) (μ : sm_Mem), 32 - j < f → j ≤ 32 → Rest come j r → (∀ c, vis c = enV vis0 come j c) → Sb near E q vis par rk e → SrH q vis par e μ → FrS μ0 μ → μ.1 77 = μ0.1 77 →
    T (fnX2_enter_L28 f 76 fr r) μ (fun _ μ' => ∃ (q' : Nat → Nat) (vis' : Nat → Bool) (par' rk' : Nat → Nat) (e' : Nat), (∀ c, vis' c = enV vis0 come 25 c) ∧ Sb near E q' vis' par' rk' e' ∧ SrH q' vis' par' e' μ' ∧ FrS μ0 μ' ∧ μ'.1 77 = μ0.1 77 ∧ e ≤ e' ∧ ∀ i, i < e → q' i = q i) := by
  have e_89 : ln 89 = 25 := rfl
  have e_91 : ln 91 = 50 := rfl
  intro f
  induction f with
  | zero =>
    intro j r q vis par rk e μ h
    omega
  | succ f ih =>
    intro j r q vis par rk e μ hf hj hr hv hB hS hF h77
    unfold fnX2_enter_L28
    by_cases c0 : r = 0
    · rw [t_brT c0, t_ret]
      have done : ∀ c, vis c = enV vis0 come 25 c := by
        intro c
        rw [hv c]
        unfold enV
        congr 1
        by_cases c1 : c < 25
        · by_cases c2 : c < j
          · rw [decide_eq_true ⟨c1, c2⟩, decide_eq_true ⟨c1, c1⟩]
          · rw [rest_end hr c0 (show c < 32 by omega) (by omega), Bool.and_false, Bool.and_false]
        · rw [decide_eq_false (fun z => c1 z.1), decide_eq_false (fun z => c1 z.1)]
      exact ⟨q, vis, par, rk, e, done, hB, hS, hF, h77, Nat.le_refl _, fun _ _ => rfl⟩
    · obtain ⟨s, s1, s2, s3, s4, s5, s6⟩ := rest_next hr c0
      have s25 : s < 25 := by
        refine Classical.byContradiction (fun hn => ?_)
        rw [hc s (by omega) s1] at s3
        cases s3
      obtain ⟨hE, hfr⟩ := hR s s25 s3
      have vs : vis s = false := by
        rw [hv s]
        unfold enV
        rw [hv0 s s25 s3, decide_eq_false (by omega)]
        rfl
      have el := sb_lt hB (Or.inl s25) vs
      have mono : ∀ c, vis0 c = true → vis c = true := fun c hc0 => by rw [hv c]; unfold enV; rw [hc0]; rfl
      obtain ⟨m1, m2, m3, m4⟩ := hS
      have y1 : (u2 μ.1 89 s fr, μ.2).1 76 6 = nI e := by
        rw [← m1]
        simp (disch := omega) only [u2_ne, u2_a, u2_k, u2_at]
      have y2 : (u2 (u2 μ.1 89 s fr) 91 e (nI s), μ.2).1 76 6 = nI e := by
        rw [← m1]
        simp (disch := omega) only [u2_ne, u2_a, u2_k, u2_at]
      rw [t_brF c0, t_bnd, t_eq (s5 μ), lk_76_3, lk_76_5, t_sai (by omega), t_gi, y1, t_sai (by omega), t_gi, y2, nI_1, t_si, t_nm]
      have B' := sb_add hB (a := a) (b := s) (Or.inl s25) vs (by
        rcases hE with ⟨z1, z2⟩ | ⟨z1, z2, z3⟩
        · exact Or.inl ⟨z1, s25, z2⟩
        · exact Or.inr ⟨z1, mono a z2, z3⟩)
      refine t_mono (ih (s + 1) _ (up q e s) (fun x => vis x || decide (x = s)) (up par s a) (up rk s e) (e + 1) _ (by omega) (by omega) s6 ?_ B' ?_ ?_ ?_) ?_
      · intro c
        show (vis c || decide (c = s)) = _
        rw [hv c]
        unfold enV
        by_cases c1 : c = s
        · subst c1
          rw [decide_eq_true rfl, decide_eq_true (p := c < 25 ∧ c < c + 1) ⟨s25, by omega⟩, s3]
          simp
        · rw [decide_eq_false c1, Bool.or_false]
          congr 1
          by_cases c2 : c < 25
          · by_cases c3 : c < j
            · rw [decide_eq_true ⟨c2, c3⟩, decide_eq_true ⟨c2, by omega⟩]
            · by_cases c4 : c < s
              · rw [s4 c (by omega) c4, Bool.and_false, Bool.and_false]
              · rw [decide_eq_false (fun z => c3 z.2), decide_eq_false (p := c < 25 ∧ c < s + 1) (by omega)]
          · rw [decide_eq_false (fun z => c2 z.1), decide_eq_false (fun z => c2 z.1)]
      · refine ⟨(by simp (disch := omega) only [u2_ne, u2_a, u2_k, u2_at]), ?_, ?_, ?_⟩
        · intro i hi
          by_cases c1 : i = e
          · subst c1
            rw [up_at]
            simp (disch := omega) only [u2_ne, u2_a, u2_k, u2_at]
          · rw [up_ne c1, ← m2 i (by omega)]
            simp (disch := omega) only [u2_ne, u2_a, u2_k, u2_at]
        · intro t ht hvt
          by_cases c1 : t = s
          · subst c1
            rw [up_at, ← hfr]
            simp (disch := omega) only [u2_ne, u2_a, u2_k, u2_at]
          · rw [up_ne c1, ← m3 t ht (by simpa [c1] using hvt)]
            simp (disch := omega) only [u2_ne, u2_a, u2_k, u2_at]
        · intro t ht hvt
          have c1 : ¬ 32 + t = s := by omega
          rw [up_ne c1, ← m4 t ht (by simpa [c1] using hvt)]
          simp (disch := omega) only [u2_ne, u2_a, u2_k, u2_at]
      · exact ⟨fun z z1 z2 z3 => by rw [← hF.1 z z1 z2 z3]; simp (disch := omega) only [u2_ne, u2_a, u2_k, u2_at], fun k k1 => by rw [← hF.2.1 k k1]; simp (disch := omega) only [u2_ne, u2_a, u2_k, u2_at], fun k k1 k2 => by rw [← hF.2.2.1 k k1 k2]; simp (disch := omega) only [u2_ne, u2_a, u2_k, u2_at], hF.2.2.2⟩
      · rw [← h77]
        simp (disch := omega) only [u2_ne, u2_a, u2_k, u2_at]
      · rintro - μ' ⟨q', vis', par', rk', e', a1, a2, a3, a4, a5, a6, a7⟩
        exact ⟨q', vis', par', rk', e', a1, a2, a3, a4, a5, by omega, fun i hi => by rw [a7 i (by omega), up_ne (by omega)]⟩
/-- what entering leaves -/
def EnP (near : Nat → Bool) (E : Nat → Nat → Prop) (q : Nat → Nat) (e : Nat) (vis : Nat → Bool) (μ0 μ : sm_Mem) : Prop := ∃ (q' : Nat → Nat) (par' rk' : Nat → Nat) (e' : Nat), Sb near E q' vis par' rk' e' ∧ SrH q' vis par' e' μ ∧ MkE vis μ ∧ MkL vis μ ∧ FrS μ0 μ ∧ e ≤ e' ∧ ∀ i, i < e → q' i = q i
theorem enter_T {near : Nat → Bool} {E : Nat → Nat → Prop} {vis : Nat → Bool} {m fr : Int32} {a : Nat} (hc : ∀ i, 25 ≤ i → i < 32 → bt m i = false) (hR : ∀ s, s < 25 → bt m s = true → ((a = 64 ∧ near s = true) ∨ (vd a ∧ vis a = true ∧ E a s)) ∧ fr = eFr s a) {q : Nat → Nat} {par rk : Nat → Nat} {e : Nat} {μ : sm_Mem} (hB : Sb near E q vis par rk e) (hS : SrH q vis par e μ) (hE : MkE vis μ) (hL : MkL vis μ) :
    T (fnX2_enter 76 m fr) μ (fun _ μ' => EnP near E q e (fun c => vis c || (decide (c < 25) && bt m c)) μ μ') := by
  unfold fnX2_enter
  rw [lk_76_1, t_gi, t_nm, t_gi, t_si]
  have hcome : ∀ i, i < 32 → bt (m &&& (μ.1 77 3 ^^^ (-1 : Int32))) i = (bt m i && !(decide (i < 25) && vis i)) := by
    intro i hi
    rw [b_and, k_not _ hi, hE i hi]
  refine t_mono (enter_L (near := near) (E := E) (vis0 := vis) (come := m &&& (μ.1 77 3 ^^^ (-1 : Int32))) (fr := fr) (a := a) ?_ ?_ ?_ (μ0 := (u2 μ.1 77 3 (μ.1 77 3 ||| (m &&& (μ.1 77 3 ^^^ (-1 : Int32)))), μ.2)) 4096 0 _ q vis par rk e _ (by omega) (by omega) (rest_0 _) ?_ hB ?_ (frS_rf _) rfl) ?_
  · intro i h1 h2
    rw [hcome i h2, hc i h1 h2]
    rfl
  · intro s hs hb
    rw [hcome s (by omega), decide_eq_true hs, Bool.true_and] at hb
    simp only [Bool.and_eq_true, Bool.not_eq_true'] at hb
    exact hb.2
  · intro s hs hb
    rw [hcome s (by omega)] at hb
    simp only [Bool.and_eq_true] at hb
    exact hR s hs hb.1
  · intro c
    unfold enV
    rw [decide_eq_false (by omega)]
    simp
  · obtain ⟨m1, m2, m3, m4⟩ := hS
    exact ⟨by rw [← m1]; simp (disch := omega) only [u2_ne, u2_a, u2_k, u2_at], fun i hi => by rw [← m2 i hi]; simp (disch := omega) only [u2_ne, u2_a, u2_k, u2_at], fun s hs hv => by rw [← m3 s hs hv]; simp (disch := omega) only [u2_ne, u2_a, u2_k, u2_at], fun s hs hv => by rw [← m4 s hs hv]; simp (disch := omega) only [u2_ne, u2_a, u2_k, u2_at]⟩
  · rintro - μ' ⟨q', vis', par', rk', e', a1, a2, a3, a4, a5, a6, a7⟩
    have ev : ∀ c, vis' c = (vis c || (decide (c < 25) && bt m c)) := by
      intro c
      rw [a1 c]
      unfold enV
      by_cases c1 : c < 25
      · rw [decide_eq_true (p := c < 25 ∧ c < 25) ⟨c1, c1⟩, hcome c (by omega), decide_eq_true c1]
        cases vis c <;> simp
      · rw [decide_eq_false (p := c < 25 ∧ c < 25) (fun z => c1 z.1), decide_eq_false c1]
        rfl
    refine ⟨q', par', rk', e', sb_cong ev a2, srH_cong ev a3, ?_, ?_, ?_, a6, a7⟩
    · intro s hs
      rw [a5, show (u2 μ.1 77 3 (μ.1 77 3 ||| (m &&& (μ.1 77 3 ^^^ (-1 : Int32)))), μ.2).1 77 3 = μ.1 77 3 ||| (m &&& (μ.1 77 3 ^^^ (-1 : Int32))) from (by simp (disch := omega) only [u2_ne, u2_a, u2_k, u2_at]), b_or, hcome s hs, hE s hs]
      show _ = (decide (s < 25) && (vis s || (decide (s < 25) && bt m s)))
      by_cases c1 : s < 25
      · rw [decide_eq_true c1]
        cases vis s <;> simp
      · rw [decide_eq_false c1, hc s (by omega) hs]
        rfl
    · intro s hs
      rw [a5, show (u2 μ.1 77 3 (μ.1 77 3 ||| (m &&& (μ.1 77 3 ^^^ (-1 : Int32)))), μ.2).1 77 4 = μ.1 77 4 from (by simp (disch := omega) only [u2_ne, u2_a, u2_k, u2_at]), hL s hs]
      show _ = (decide (s < 25) && (vis (32 + s) || (decide (32 + s < 25) && bt m (32 + s))))
      by_cases c1 : s < 25
      · rw [decide_eq_true c1, decide_eq_false (show ¬ 32 + s < 25 by omega)]
        simp
      · rw [decide_eq_false c1]
        rfl
    · exact ⟨fun z z1 z2 z3 => by rw [a4.1 z z1 z2 z3]; simp (disch := omega) only [u2_ne, u2_a, u2_k, u2_at], fun k k1 => by rw [a4.2.1 k k1]; simp (disch := omega) only [u2_ne, u2_a, u2_k, u2_at], fun k k1 k2 => by rw [a4.2.2.1 k k1 k2]; simp (disch := omega) only [u2_ne, u2_a, u2_k, u2_at], a4.2.2.2⟩
theorem leave_L {near : Nat → Bool} {E : Nat → Nat → Prop} {vis0 : Nat → Bool} {come fr : Int32} {a : Nat} (hc : ∀ i, 25 ≤ i → i < 32 → bt come i = false) (hv0 : ∀ s, s < 25 → bt come s = true → vis0 (32 + s) = false) (hR : ∀ s, s < 25 → bt come s = true → (vd a ∧ vis0 a = true ∧ E a (32 + s)) ∧ fr = xFr s a) {μ0 : sm_Mem} :
    ∀ (f j : Nat) (r : Int32) (q : Nat → Nat) (vis : Nat → Bool) (par rk : Nat → Nat) (e : Nat) (μ : sm_Mem), 32 - j < f → j ≤ 32 → Rest come j r → (∀ c, vis c = leV vis0 come j c) → Sb near E q vis par rk e → SrH q vis par e μ → FrS μ0 μ → μ.1 77 = μ0.1 77 →
    T (fnX2_leave_L28 f 76 fr r) μ (fun _ μ' => ∃ (q' : Nat → Nat) (vis' : Nat → Bool) (par' rk' : Nat → Nat) (e' : Nat), (∀ c, vis' c = leV vis0 come 25 c) ∧ Sb near E q' vis' par' rk' e' ∧ SrH q' vis' par' e' μ' ∧ FrS μ0 μ' ∧ μ'.1 77 = μ0.1 77 ∧ e ≤ e' ∧ ∀ i, i < e → q' i = q i) := by
  have e_90 : ln 90 = 25 := rfl
  have e_91 : ln 91 = 50 := rfl
  intro f
  induction f with
  | zero =>
    intro j r q vis par rk e μ h
    omega
  | succ f ih =>
    intro j r q vis par rk e μ hf hj hr hv hB hS hF h77
    unfold fnX2_leave_L28
    by_cases c0 : r = 0
    · rw [t_brT c0, t_ret]
      have done : ∀ c, vis c = leV vis0 come 25 c := by
        intro c
        rw [hv c]
        unfold leV
        congr 1
        by_cases c1 : 32 ≤ c ∧ c < 57
        · by_cases c2 : c - 32 < j
          · rw [decide_eq_true ⟨c1.1, c1.2, c2⟩, decide_eq_true (p := 32 ≤ c ∧ c < 57 ∧ c - 32 < 25) (by omega)]
          · rw [rest_end hr c0 (show c - 32 < 32 by omega) (by omega), Bool.and_false, Bool.and_false]
        · rw [decide_eq_false (fun z => c1 ⟨z.1, z.2.1⟩), decide_eq_false (fun z => c1 ⟨z.1, z.2.1⟩)]
      exact ⟨q, vis, par, rk, e, done, hB, hS, hF, h77, Nat.le_refl _, fun _ _ => rfl⟩
    · obtain ⟨s, s1, s2, s3, s4, s5, s6⟩ := rest_next hr c0
      have s25 : s < 25 := by
        refine Classical.byContradiction (fun hn => ?_)
        rw [hc s (by omega) s1] at s3
        cases s3
      obtain ⟨hE, hfr⟩ := hR s s25 s3
      have vs : vis (32 + s) = false := by
        rw [hv (32 + s)]
        unfold leV
        rw [hv0 s s25 s3, decide_eq_false (by omega)]
        rfl
      have vds : vd (32 + s) := Or.inr (by omega)
      have el := sb_lt hB vds vs
      have mono : ∀ c, vis0 c = true → vis c = true := fun c hc0 => by rw [hv c]; unfold leV; rw [hc0]; rfl
      obtain ⟨m1, m2, m3, m4⟩ := hS
      have y1 : (u2 μ.1 90 s fr, μ.2).1 76 6 = nI e := by
        rw [← m1]
        simp (disch := omega) only [u2_ne, u2_a, u2_k, u2_at]
      have y2 : (u2 (u2 μ.1 90 s fr) 91 e (nI (s + 32)), μ.2).1 76 6 = nI e := by
        rw [← m1]
        simp (disch := omega) only [u2_ne, u2_a, u2_k, u2_at]
      rw [t_brF c0, t_bnd, t_eq (s5 μ), lk_76_4, lk_76_5, t_sai (by omega), t_gi, y1, li_32, nI_add, t_sai (by omega), t_gi, y2, nI_1, t_si, t_nm]
      have B' := sb_add hB (a := a) (b := 32 + s) vds vs (Or.inr ⟨hE.1, mono a hE.2.1, hE.2.2⟩)
      refine t_mono (ih (s + 1) _ (up q e (32 + s)) (fun x => vis x || decide (x = 32 + s)) (up par (32 + s) a) (up rk (32 + s) e) (e + 1) _ (by omega) (by omega) s6 ?_ B' ?_ ?_ ?_) ?_
      · intro c
        show (vis c || decide (c = 32 + s)) = _
        rw [hv c]
        unfold leV
        by_cases c1 : c = 32 + s
        · subst c1
          rw [decide_eq_true rfl, decide_eq_true (p := 32 ≤ 32 + s ∧ 32 + s < 57 ∧ 32 + s - 32 < s + 1) (by omega), show 32 + s - 32 = s by omega, s3]
          simp
        · rw [decide_eq_false c1, Bool.or_false]
          congr 1
          by_cases c2 : 32 ≤ c ∧ c < 57
          · by_cases c3 : c - 32 < j
            · rw [decide_eq_true ⟨c2.1, c2.2, c3⟩, decide_eq_true (p := 32 ≤ c ∧ c < 57 ∧ c - 32 < s + 1) (by omega)]
            · by_cases c4 : c - 32 < s
              · rw [s4 (c - 32) (by omega) c4, Bool.and_false, Bool.and_false]
              · rw [decide_eq_false (fun z => c3 z.2.2), decide_eq_false (p := 32 ≤ c ∧ c < 57 ∧ c - 32 < s + 1) (by omega)]
          · rw [decide_eq_false (fun z => c2 ⟨z.1, z.2.1⟩), decide_eq_false (fun z => c2 ⟨z.1, z.2.1⟩)]
      · refine ⟨(by simp (disch := omega) only [u2_ne, u2_a, u2_k, u2_at]), ?_, ?_, ?_⟩
        · intro i hi
          by_cases c1 : i = e
          · subst c1
            rw [up_at, show 32 + s = s + 32 by omega]
            simp (disch := omega) only [u2_ne, u2_a, u2_k, u2_at]
          · rw [up_ne c1, ← m2 i (by omega)]
            simp (disch := omega) only [u2_ne, u2_a, u2_k, u2_at]
        · intro t ht hvt
          have c1 : ¬ t = 32 + s := by omega
          rw [up_ne c1, ← m3 t ht (by simpa [c1] using hvt)]
          simp (disch := omega) only [u2_ne, u2_a, u2_k, u2_at]
        · intro t ht hvt
          by_cases c1 : t = s
          · subst c1
            rw [up_at, ← hfr]
            simp (disch := omega) only [u2_ne, u2_a, u2_k, u2_at]
          · have c2 : ¬ 32 + t = 32 + s := by omega
            rw [up_ne c2, ← m4 t ht (by simpa [c1] using hvt)]
            simp (disch := omega) only [u2_ne, u2_a, u2_k, u2_at]
      · exact ⟨fun z z1 z2 z3 => by rw [← hF.1 z z1 z2 z3]; simp (disch := omega) only [u2_ne, u2_a, u2_k, u2_at], fun k k1 => by rw [← hF.2.1 k k1]; simp (disch := omega) only [u2_ne, u2_a, u2_k, u2_at], fun k k1 k2 => by rw [← hF.2.2.1 k k1 k2]; simp (disch := omega) only [u2_ne, u2_a, u2_k, u2_at], hF.2.2.2⟩
      · rw [← h77]
        simp (disch := omega) only [u2_ne, u2_a, u2_k, u2_at]
      · rintro - μ' ⟨q', vis', par', rk', e', a1, a2, a3, a4, a5, a6, a7⟩
        exact ⟨q', vis', par', rk', e', a1, a2, a3, a4, a5, by omega, fun i hi => by rw [a7 i (by omega), up_ne (by omega)]⟩
theorem leave_T {near : Nat → Bool} {E : Nat → Nat → Prop} {vis : Nat → Bool} {m fr : Int32} {a : Nat} (hc : ∀ i, 25 ≤ i → i < 32 → bt m i = false) (hR : ∀ s, s < 25 → bt m s = true → (vd a ∧ vis a = true ∧ E a (32 + s)) ∧ fr = xFr s a) {q : Nat → Nat} {par rk : Nat → Nat} {e : Nat} {μ : sm_Mem} (hB : Sb near E q vis par rk e) (hS : SrH q vis par e μ) (hE : MkE vis μ) (hL : MkL vis μ) :
    T (fnX2_leave 76 m fr) μ (fun _ μ' => EnP near E q e (fun c => vis c || (decide (32 ≤ c ∧ c < 57) && bt m (c - 32))) μ μ') := by
  unfold fnX2_leave
  rw [lk_76_1, t_gi, t_nm, t_gi, t_si]
  have hcome : ∀ i, i < 32 → bt (m &&& (μ.1 77 4 ^^^ (-1 : Int32))) i = (bt m i && !(decide (i < 25) && vis (32 + i))) := by
    intro i hi
    rw [b_and, k_not _ hi, hL i hi]
  refine t_mono (leave_L (near := near) (E := E) (vis0 := vis) (come := m &&& (μ.1 77 4 ^^^ (-1 : Int32))) (fr := fr) (a := a) ?_ ?_ ?_ (μ0 := (u2 μ.1 77 4 (μ.1 77 4 ||| (m &&& (μ.1 77 4 ^^^ (-1 : Int32)))), μ.2)) 4096 0 _ q vis par rk e _ (by omega) (by omega) (rest_0 _) ?_ hB ?_ (frS_rf _) rfl) ?_
  · intro i h1 h2
    rw [hcome i h2, hc i h1 h2]
    rfl
  · intro s hs hb
    rw [hcome s (by omega), decide_eq_true hs, Bool.true_and] at hb
    simp only [Bool.and_eq_true, Bool.not_eq_true'] at hb
    exact hb.2
  · intro s hs hb
    rw [hcome s (by omega)] at hb
    simp only [Bool.and_eq_true] at hb
    exact hR s hs hb.1
  · intro c
    unfold leV
    rw [decide_eq_false (by omega)]
    simp
  · obtain ⟨m1, m2, m3, m4⟩ := hS
    exact ⟨by rw [← m1]; simp (disch := omega) only [u2_ne, u2_a, u2_k, u2_at], fun i hi => by rw [← m2 i hi]; simp (disch := omega) only [u2_ne, u2_a, u2_k, u2_at], fun s hs hv => by rw [← m3 s hs hv]; simp (disch := omega) only [u2_ne, u2_a, u2_k, u2_at], fun s hs hv => by rw [← m4 s hs hv]; simp (disch := omega) only [u2_ne, u2_a, u2_k, u2_at]⟩
  · rintro - μ' ⟨q', vis', par', rk', e', a1, a2, a3, a4, a5, a6, a7⟩
    have ev : ∀ c, vis' c = (vis c || (decide (32 ≤ c ∧ c < 57) && bt m (c - 32))) := by
      intro c
      rw [a1 c]
      unfold leV
      by_cases c1 : 32 ≤ c ∧ c < 57
      · rw [decide_eq_true (p := 32 ≤ c ∧ c < 57 ∧ c - 32 < 25) (by omega), hcome (c - 32) (by omega), decide_eq_true c1, decide_eq_true (show c - 32 < 25 by omega), show 32 + (c - 32) = c by omega]
        cases vis c <;> simp
      · rw [decide_eq_false (p := 32 ≤ c ∧ c < 57 ∧ c - 32 < 25) (fun z => c1 ⟨z.1, z.2.1⟩), decide_eq_false c1]
        rfl
    refine ⟨q', par', rk', e', sb_cong ev a2, srH_cong ev a3, ?_, ?_, ?_, a6, a7⟩
    · intro s hs
      rw [a5, show (u2 μ.1 77 4 (μ.1 77 4 ||| (m &&& (μ.1 77 4 ^^^ (-1 : Int32)))), μ.2).1 77 3 = μ.1 77 3 from (by simp (disch := omega) only [u2_ne, u2_a, u2_k, u2_at]), hE s hs]
      show _ = (decide (s < 25) && (vis s || (decide (32 ≤ s ∧ s < 57) && bt m (s - 32))))
      by_cases c1 : s < 25
      · rw [decide_eq_true c1, decide_eq_false (show ¬ (32 ≤ s ∧ s < 57) by omega)]
        simp
      · rw [decide_eq_false c1]
        rfl
    · intro s hs
      rw [a5, show (u2 μ.1 77 4 (μ.1 77 4 ||| (m &&& (μ.1 77 4 ^^^ (-1 : Int32)))), μ.2).1 77 4 = μ.1 77 4 ||| (m &&& (μ.1 77 4 ^^^ (-1 : Int32))) from (by simp (disch := omega) only [u2_ne, u2_a, u2_k, u2_at]), b_or, hcome s hs, hL s hs]
      show _ = (decide (s < 25) && (vis (32 + s) || (decide (32 ≤ 32 + s ∧ 32 + s < 57) && bt m (32 + s - 32))))
      rw [show 32 + s - 32 = s by omega]
      by_cases c1 : s < 25
      · rw [decide_eq_true c1, decide_eq_true (show 32 ≤ 32 + s ∧ 32 + s < 57 by omega)]
        cases vis (32 + s) <;> simp
      · rw [decide_eq_false c1, hc s (by omega) hs]
        rfl
    · exact ⟨fun z z1 z2 z3 => by rw [a4.1 z z1 z2 z3]; simp (disch := omega) only [u2_ne, u2_a, u2_k, u2_at], fun k k1 => by rw [a4.2.1 k k1]; simp (disch := omega) only [u2_ne, u2_a, u2_k, u2_at], fun k k1 k2 => by rw [a4.2.2.1 k k1 k2]; simp (disch := omega) only [u2_ne, u2_a, u2_k, u2_at], a4.2.2.2⟩
