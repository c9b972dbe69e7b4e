/-! ===== THE COMPONENT'S FLOW: narrowest, push, fill ===== -/
theorem n_m2 {n : Nat} (h : n < 2 ^ 31) : ¬ nI n = (-2 : Int32) := by
  intro e
  have h1 := nI_toInt h
  rw [e] at h1
  have h2 : ((-2 : Int32)).toInt = -2 := by decide
  omega
theorem rsOk_mono {R par : Nat → Nat} {y : Nat} : ∀ {f f' : Nat} {c : Nat}, f ≤ f' → rsOk R par y f c → rsOk R par y f' c
  | 0, _, _, _, h => absurd h (fun z => z)
  | f + 1, 0, _, hl, _ => by omega
  | f + 1, f' + 1, c, hl, h => ⟨h.1, h.2.elim Or.inl (fun z => Or.inr (rsOk_mono (by omega) z))⟩
theorem par_exit {near : Nat → Bool} {b : Nat → Nat} {adj : Nat → Nat → Bool} {g : Nat → Nat} {h : Nat → Nat → Nat} {q : Nat → Nat} {vis : Nat → Bool} {par rk : Nat → Nat} {e : Nat} (B : Sb near (ed b adj g h) q vis par rk e) {s : Nat} (hs : s < 25) (hv : vis (32 + s) = true) : par (32 + s) < 25 ∧ vis (par (32 + s)) = true ∧ rk (par (32 + s)) < rk (32 + s) := by
  obtain ⟨-, -, b3⟩ := B.2.1 (32 + s) (Or.inr (by omega)) hv
  rcases b3 with z | ⟨z1, z2, z3, z4⟩
  · omega
  · refine ⟨?_, z2, z3⟩
    rcases z4 with ⟨y, -⟩ | ⟨-, -, y, -⟩
    · exact y
    · omega
theorem par_entry {near : Nat → Bool} {b : Nat → Nat} {adj : Nat → Nat → Bool} {g : Nat → Nat} {h : Nat → Nat → Nat} {q : Nat → Nat} {vis : Nat → Bool} {par rk : Nat → Nat} {e : Nat} (B : Sb near (ed b adj g h) q vis par rk e) {s : Nat} (hs : s < 25) (hv : vis s = true) : (par s = 64 ∧ near s = true) ∨ ∃ t, t < 25 ∧ par s = 32 + t ∧ vis (32 + t) = true ∧ rk (32 + t) < rk s := by
  obtain ⟨-, -, b3⟩ := B.2.1 s (Or.inl hs) hv
  rcases b3 with ⟨z1, -, z3⟩ | ⟨z1, z2, z3, z4⟩
  · exact Or.inl ⟨z1, z3⟩
  · right
    rcases z4 with ⟨-, y, -⟩ | ⟨y1, y2, -⟩
    · omega
    · exact ⟨par s - 32, by omega, by omega, by rw [show 32 + (par s - 32) = par s by omega]; exact z2, by rw [show 32 + (par s - 32) = par s by omega]; exact z3⟩
theorem nar_L {near far : Nat → Bool} {adj : Nat → Nat → Bool} {b g : Nat → Nat} {h : Nat → Nat → Nat} (hgb : ∀ s, s < 25 → g s < 100 ∧ b s < 100 ∧ g s ≤ b s) (hh : ∀ s t, s < 25 → t < 25 → h s t < 100) {μ : sm_Mem} (hN : NtH 77 near far adj b g h μ) {q : Nat → Nat} {vis : Nat → Bool} {par rk : Nat → Nat} {e : Nat} (B : Sb near (ed b adj g h) q vis par rk e) (hS : SrH q vis par e μ) :
    ∀ f, (∀ s m k, s < 25 → vis (32 + s) = true → rk (32 + s) < f → 1 ≤ m → m ≤ 999 → k + rk (32 + s) < 51 → ∃ y, fnX2_narrowest_L12 f 76 (nI m) (nI s) (1 : Int32) (nI k) μ = some (nI y, μ) ∧ 1 ≤ y ∧ y ≤ m ∧ rsOk (rs b g h par) par y (rk (32 + s) + 1) (32 + s)) ∧
      (∀ s m k, s < 25 → vis s = true → rk s < f → 1 ≤ m → m ≤ 999 → k + rk s < 51 → ∃ y, fnX2_narrowest_L12 f 76 (nI m) (nI s) (0 : Int32) (nI k) μ = some (nI y, μ) ∧ 1 ≤ y ∧ y ≤ m ∧ rsOk (rs b g h par) par y (rk s + 1) s) := by
  have e_79 : ln 79 = 25 := rfl
  have e_80 : ln 80 = 25 := rfl
  have e_81 : ln 81 = 625 := rfl
  have e_89 : ln 89 = 25 := rfl
  have e_90 : ln 90 = 25 := rfl
  intro f
  induction f with
  | zero => exact ⟨fun s m k _ _ h => by omega, fun s m k _ _ h => by omega⟩
  | succ f ih =>
    obtain ⟨ihx, ihe⟩ := ih
    refine ⟨?_, ?_⟩
    · intro s m k hs hv hf hm1 hm9 hk
      obtain ⟨N1, N2, N3, N4, N5⟩ := hN.2 s hs
      obtain ⟨g9, b9, gb⟩ := hgb s hs
      obtain ⟨p1, p2, p3⟩ := par_exit B hs hv
      have pos := rs_pos B (c := 32 + s) (Or.inr (by omega)) hv
      have x90 := hS.2.2.2 s hs hv
      unfold fnX2_narrowest_L12 fnX2_narrowest_J34 fnX2_narrowest_J54 fnX2_narrowest_J100 fnX2_narrowest_J135 fnX2_narrowest_J139 fnX2_narrowest_J149
      rw [e_F (show ¬ (52 : Int32) ≤ nI k from nI_ge (b := 52) (by omega) (by omega)), e_F (by decide), e_F (by decide), lk_76_4, lk_76_1, lk_77_6, lk_77_7, lk_77_8, e_ai (by omega), x90, nI_1]
      unfold xFr
      by_cases c : par (32 + s) = s
      · have rc : rs b g h par (32 + s) = b s - g s := by
          unfold rs
          rw [if_neg (by omega), if_pos (by omega), show 32 + s - 32 = s by omega]
        rw [c] at p2 p3
        rw [rc] at pos
        rw [if_pos c, e_T (show mI 2 = (-2 : Int32) from rfl), e_F (by decide), e_ai (by omega), N2, e_ai (by omega), N3, e_nm', pk_sub gb, jmin_nat (by omega) (by omega), e_F (by decide)]
        obtain ⟨y, y1, y2, y3, y4⟩ := ihe s (min m (b s - g s)) (k + 1) hs p2 (by omega) (by omega) (by omega) (by omega)
        exact ⟨y, y1, y2, by omega, by rw [rc]; omega, Or.inr (by rw [c]; exact rsOk_mono (by omega) y4)⟩
      · have rc : rs b g h par (32 + s) = h s (par (32 + s)) := by
          unfold rs
          rw [if_neg (by omega), if_neg (by omega), show 32 + s - 32 = s by omega]
        have h9 := hh s (par (32 + s)) hs p1
        have N4' := N4 (par (32 + s)) p1
        rw [rc] at pos
        rw [if_neg c, e_F (n_m2 (by omega)), e_F (by decide), li_25, pk_mul, nI_add, e_ai (by omega), N4', jmin_nat (by omega) (by omega), e_F (by decide)]
        obtain ⟨y, y1, y2, y3, y4⟩ := ihe (par (32 + s)) (min m (h s (par (32 + s)))) (k + 1) p1 p2 (by omega) (by omega) (by omega) (by omega)
        exact ⟨y, y1, y2, by omega, by rw [rc]; omega, Or.inr (rsOk_mono (by omega) y4)⟩
    · intro s m k hs hv hf hm1 hm9 hk
      obtain ⟨N1, N2, N3, N4, N5⟩ := hN.2 s hs
      obtain ⟨g9, b9, gb⟩ := hgb s hs
      have pos := rs_pos B (c := s) (Or.inl hs) hv
      have x89 := hS.2.2.1 s hs hv
      unfold fnX2_narrowest_L12 fnX2_narrowest_J34 fnX2_narrowest_J54 fnX2_narrowest_J100 fnX2_narrowest_J135 fnX2_narrowest_J139 fnX2_narrowest_J149
      rw [e_F (show ¬ (52 : Int32) ≤ nI k from nI_ge (b := 52) (by omega) (by omega)), e_T rfl, lk_76_3, lk_76_1, lk_77_6, lk_77_7, lk_77_8, e_ai (by omega), x89]
      unfold eFr
      rcases par_entry B hs hv with ⟨z1, z2⟩ | ⟨t, ht, pt, vt, rt⟩
      · rw [if_pos z1, e_T m1_mI.symm]
        refine ⟨m, rfl, hm1, Nat.le_refl _, ?_, Or.inl z1⟩
        unfold rs
        rw [if_pos hs, if_neg (by omega)]
        exact hm9
      · rw [if_neg (show ¬ par s = 64 by omega)]
        by_cases c : par s = 32 + s
        · have rc : rs b g h par s = g s := by
            unfold rs
            rw [if_pos hs, if_pos c]
          have : t = s := by omega
          subst this
          rw [rc] at pos
          have x89' : μ.1 89 t = mI 2 := by
            rw [x89]
            unfold eFr
            rw [if_neg (by omega), if_pos c]
          rw [if_pos c, e_F (by decide), e_T rfl, e_ai (by omega), x89', e_T (show mI 2 = (-2 : Int32) from rfl), e_T rfl, e_ai (by omega), N3, e_nm', jmin_nat (by omega) (by omega), e_T rfl, nI_1]
          obtain ⟨y, y1, y2, y3, y4⟩ := ihx t (min m (g t)) (k + 1) hs vt (by omega) (by omega) (by omega) (by omega)
          exact ⟨y, y1, y2, by omega, by rw [rc]; omega, Or.inr (by rw [c]; exact rsOk_mono (by omega) y4)⟩
        · have rc : rs b g h par s = 999 := by
            unfold rs
            rw [if_pos hs, if_neg c]
          have e32 : par s - 32 = t := by omega
          have x89' : μ.1 89 s = nI t := by
            rw [x89]
            unfold eFr
            rw [if_neg (by omega), if_neg c, e32]
          rw [if_neg c, e32, e_F (n_m1 (by omega)), e_T rfl, e_ai (by omega), x89', e_F (n_m2 (by omega)), e_T rfl, e_T rfl, nI_1]
          obtain ⟨y, y1, y2, y3, y4⟩ := ihx t m (k + 1) ht vt (by omega) hm1 hm9 (by omega)
          exact ⟨y, y1, y2, y3, by rw [rc]; omega, Or.inr (by rw [pt]; exact rsOk_mono (by omega) y4)⟩
/-! pushing -/
def FrP (μ0 μ : sm_Mem) : Prop := (∀ a, (a < 80 ∨ 83 ≤ a) → μ.1 a = μ0.1 a) ∧ μ.2 = μ0.2
theorem ntH_g {near far : Nat → Bool} {adj : Nat → Nat → Bool} {b g : Nat → Nat} {h : Nat → Nat → Nat} {μ : sm_Mem} (H : NtH 77 near far adj b g h μ) (s v : Nat) : NtH 77 near far adj b (up g s v) h (u2 μ.1 80 s (nI v), μ.2) := by
  refine ⟨fun t ht => ?_, fun t ht => ?_⟩
  · rw [show (u2 μ.1 80 s (nI v), μ.2).1 77 = μ.1 77 from (by simp (disch := omega) only [u2_ne, u2_a, u2_k, u2_at])]
    exact H.1 t ht
  · obtain ⟨h1, h2, h3, h4, h5⟩ := H.2 t ht
    refine ⟨?_, ?_, ?_, ?_, ?_⟩
    · rw [show (u2 μ.1 80 s (nI v), μ.2).1 (77 + 1) = μ.1 (77 + 1) from (by simp (disch := omega) only [u2_ne, u2_a, u2_k, u2_at])]
      exact h1
    · rw [show (u2 μ.1 80 s (nI v), μ.2).1 (77 + 2) = μ.1 (77 + 2) from (by simp (disch := omega) only [u2_ne, u2_a, u2_k, u2_at])]
      exact h2
    · by_cases c : t = s
      · subst c
        rw [up_at]
        simp (disch := omega) only [u2_ne, u2_a, u2_k, u2_at]
      · rw [up_ne c, ← h3]
        simp (disch := omega) only [u2_ne, u2_a, u2_k, u2_at]
    · rw [show (u2 μ.1 80 s (nI v), μ.2).1 (77 + 4) = μ.1 (77 + 4) from (by simp (disch := omega) only [u2_ne, u2_a, u2_k, u2_at])]
      exact h4
    · rw [show (u2 μ.1 80 s (nI v), μ.2).1 (77 + 5) = μ.1 (77 + 5) from (by simp (disch := omega) only [u2_ne, u2_a, u2_k, u2_at])]
      exact h5
theorem pass_T {near far : Nat → Bool} {adj : Nat → Nat → Bool} {b g : Nat → Nat} {h : Nat → Nat → Nat} {μ : sm_Mem} (H : NtH 77 near far adj b g h μ) {s t v : Nat} (hs : s < 25) (ht : t < 25) (hv : v < 2000) {d : Int32} (hd : nI (h s t) + d = nI v) : T (fnX4_pass 77 (nI s) (nI t) d) μ (fun _ μ' => NtH 77 near far adj b g (hup h s t v) μ' ∧ FrP μ μ' ∧ μ'.1 80 = μ.1 80) := by
  have e_81 : ln 81 = 625 := rfl
  have e_82 : ln 82 = 25 := rfl
  have x1 := (H.2 s hs).2.2.2.1 t ht
  have x1' : μ.1 81 (s * 25 + t) = nI (h s t) := x1
  have main : ∀ (z : Int32), (∀ x, x < 32 → bt z x = (decide (x < 25) && decide (0 < hup h s t v x t))) → NtH 77 near far adj b g (hup h s t v) (u2 (u2 μ.1 81 (s * 25 + t) (nI v)) 82 t z, μ.2) := by
    intro z hz
    refine ⟨fun x hx => ?_, fun x hx => ?_⟩
    · rw [show (u2 (u2 μ.1 81 (s * 25 + t) (nI v)) 82 t z, μ.2).1 77 = μ.1 77 from (by simp (disch := omega) only [u2_ne, u2_a, u2_k, u2_at])]
      exact H.1 x hx
    · obtain ⟨h1, h2, h3, h4, h5⟩ := H.2 x hx
      refine ⟨?_, ?_, ?_, ?_, ?_⟩
      · rw [show (u2 (u2 μ.1 81 (s * 25 + t) (nI v)) 82 t z, μ.2).1 (77 + 1) = μ.1 (77 + 1) from (by simp (disch := omega) only [u2_ne, u2_a, u2_k, u2_at])]
        exact h1
      · rw [show (u2 (u2 μ.1 81 (s * 25 + t) (nI v)) 82 t z, μ.2).1 (77 + 2) = μ.1 (77 + 2) from (by simp (disch := omega) only [u2_ne, u2_a, u2_k, u2_at])]
        exact h2
      · rw [show (u2 (u2 μ.1 81 (s * 25 + t) (nI v)) 82 t z, μ.2).1 (77 + 3) = μ.1 (77 + 3) from (by simp (disch := omega) only [u2_ne, u2_a, u2_k, u2_at])]
        exact h3
      · intro y hy
        by_cases c : x = s ∧ y = t
        · obtain ⟨rfl, rfl⟩ := c
          rw [hup_at]
          simp (disch := omega) only [u2_ne, u2_a, u2_k, u2_at]
        · rw [hup_ne (by omega), ← h4 y hy]
          simp (disch := omega) only [u2_ne, u2_a, u2_k, u2_at]
      · intro y hy
        by_cases c : x = t
        · subst c
          rw [show (u2 (u2 μ.1 81 (s * 25 + x) (nI v)) 82 x z, μ.2).1 (77 + 5) x = z from (by simp (disch := omega) only [u2_ne, u2_a, u2_k, u2_at])]
          exact hz y hy
        · rw [show (u2 (u2 μ.1 81 (s * 25 + t) (nI v)) 82 t z, μ.2).1 (77 + 5) x = μ.1 (77 + 5) x from (by simp (disch := omega) only [u2_ne, u2_a, u2_k, u2_at]), h5 y hy, hup_ne (Or.inr c)]
  have x5 := (H.2 t ht).2.2.2.2
  have x5' : (u2 μ.1 81 (s * 25 + t) (nI v), μ.2).1 82 t = μ.1 82 t := (by simp (disch := omega) only [u2_ne, u2_a, u2_k, u2_at])
  unfold fnX4_pass
  rw [t_nm, lk_77_8, lk_77_9, li_25, pk_mul, nI_add, t_ai (by omega), x1', hd, t_sai (by omega), t_ai (by omega), show (u2 μ.1 81 (s * 25 + t) (nI v), μ.2).1 81 (s * 25 + t) = nI v from (by simp (disch := omega) only [u2_ne, u2_a, u2_k, u2_at])]
  by_cases c : v ≤ 0
  · rw [t_brT (show nI v ≤ 0 from nI_le (b := 0) c (by omega)), t_ai (by omega), t_sai (by omega), t_ret, x5']
    refine ⟨main _ ?_, ⟨fun a ha => (by simp (disch := omega) only [u2_ne, u2_a, u2_k, u2_at]), rfl⟩, (by simp (disch := omega) only [u2_ne, u2_a, u2_k, u2_at])⟩
    intro x hx
    rw [b_and, k_not _ hx, k_1 s (by omega) x hx, x5 x hx]
    by_cases cx : x = s
    · subst cx
      rw [hup_at, decide_eq_true rfl, decide_eq_false (show ¬ 0 < v by omega)]
      simp
    · rw [hup_ne (Or.inl cx), decide_eq_false cx]
      simp
  · rw [t_brF (show ¬ nI v ≤ 0 from nI_ge (a := 0) (by omega) (by omega)), t_ai (by omega), t_sai (by omega), t_ret, x5']
    refine ⟨main _ ?_, ⟨fun a ha => (by simp (disch := omega) only [u2_ne, u2_a, u2_k, u2_at]), rfl⟩, (by simp (disch := omega) only [u2_ne, u2_a, u2_k, u2_at])⟩
    intro x hx
    rw [b_or, k_1 s (by omega) x hx, x5 x hx]
    by_cases cx : x = s
    · subst cx
      rw [hup_at, decide_eq_true rfl, decide_eq_true (show 0 < v by omega), decide_eq_true hs]
      simp
    · rw [hup_ne (Or.inl cx), decide_eq_false cx, Bool.or_false]
theorem add_neg {a y : Nat} (h : y ≤ a) : nI a + -(nI y) = nI (a - y) := by
  rw [← pk_sub h]
  exact (Int32.sub_eq_add_neg ..).symm
/-- what a push leaves -/
def PsP (b : Nat → Nat) (near far : Nat → Bool) (adj : Nat → Nat → Bool) (v : Nat) (μ0 μ : sm_Mem) : Prop := ∃ (g : Nat → Nat) (h : Nat → Nat → Nat) (src snk : Nat → Nat), Fl 25 b near far adj g src snk h ∧ fb_sm src 25 = v ∧ NtH 77 near far adj b g h μ ∧ FrP μ0 μ
theorem push_L {near far : Nat → Bool} {adj : Nat → Nat → Bool} {b g0 : Nat → Nat} {h0 : Nat → Nat → Nat} (hb : ∀ s, s < 25 → b s ≤ 9) {q : Nat → Nat} {vis : Nat → Bool} {par rk : Nat → Nat} {e y v : Nat} (hy9 : y ≤ 9) (B : Sb near (ed b adj g0 h0) q vis par rk e) {μ0 : sm_Mem} (hS : SrH q vis par e μ0) :
    ∀ f, (∀ s k g h src snk μ, s < 25 → vis (32 + s) = true → rk (32 + s) < f → k + rk (32 + s) < 51 → (∃ n, rsOk (rs b g0 h0 par) par y n (32 + s)) → PuI b near far adj g0 h0 vis par rk y (32 + s) g h src snk → fb_sm src 25 + y = v → NtH 77 near far adj b g h μ → FrP μ0 μ → T (fnX2_push_L8 f 76 (nI y) (nI s) (1 : Int32) (nI k)) μ (fun _ μ' => PsP b near far adj v μ0 μ')) ∧
      (∀ s k g h src snk μ, s < 25 → vis s = true → rk s < f → k + rk s < 51 → (∃ n, rsOk (rs b g0 h0 par) par y n s) → PuI b near far adj g0 h0 vis par rk y s g h src snk → fb_sm src 25 + y = v → NtH 77 near far adj b g h μ → FrP μ0 μ → T (fnX2_push_L8 f 76 (nI y) (nI s) (0 : Int32) (nI k)) μ (fun _ μ' => PsP b near far adj v μ0 μ')) := by
  have e_80 : ln 80 = 25 := rfl
  have e_89 : ln 89 = 25 := rfl
  have e_90 : ln 90 = 25 := rfl
  have hbound : ∀ g h src snk c, PuI b near far adj g0 h0 vis par rk y c g h src snk → ∀ s t, s < 25 → t < 25 → h s t ≤ 9 ∧ g s ≤ 9 := by
    intro g h src snk c P s t hs ht
    have a1 := (P.1 s hs).1
    have a1t := (P.1 t ht).1
    have a2 := P.2.1 t ht
    have a3 := hb s hs
    have a4 := hb t ht
    have a5 := fb_sm_part (fun x => h x t) (i := s) (n := 25) hs
    have a6 : fb_sm (fun x => h x t) s + h s t ≤ fb_sm (fun x => h x t) 25 := a5
    omega
  intro f
  induction f with
  | zero => exact ⟨fun s k g h src snk μ _ _ z => by omega, fun s k g h src snk μ _ _ z => by omega⟩
  | succ f ih =>
    obtain ⟨ihx, ihe⟩ := ih
    refine ⟨?_, ?_⟩
    · intro s k g h src snk μ hs hv hf hk hok P hsum hN hF
      obtain ⟨N1, N2, N3, N4, N5⟩ := hN.2 s hs
      obtain ⟨p1, p2, p3⟩ := par_exit B hs hv
      have x90 : μ.1 90 s = xFr s (par (32 + s)) := by rw [hF.1 90 (by omega)]; exact hS.2.2.2 s hs hv
      obtain ⟨n, hok⟩ := hok
      obtain ⟨n, rfl⟩ : ∃ n', n = n' + 1 := by
        cases n with
        | zero => exact absurd hok (fun z => z)
        | succ n => exact ⟨n, rfl⟩
      obtain ⟨o1, o2⟩ := hok
      have o2 := o2.resolve_left (by omega)
      unfold fnX2_push_L8 fnX2_push_J30 fnX2_push_J50 fnX2_push_J80 fnX2_push_J116 fnX2_push_J119 fnX2_push_J129
      rw [t_brF (show ¬ (52 : Int32) ≤ nI k from nI_ge (b := 52) (by omega) (by omega)), t_brF (by decide), t_brF (by decide), lk_76_4, lk_76_1, lk_77_7, t_ai (by omega), x90, nI_1]
      unfold xFr
      by_cases c : par (32 + s) = s
      · obtain ⟨g1, P'⟩ := pu_a B hs hv c P o1
        rw [c] at p2 p3 o2
        rw [if_pos c, t_brT (show mI 2 = (-2 : Int32) from rfl), t_ai (by omega), N3, t_brF (by decide), t_sai (by omega), nI_add, t_brF (by decide)]
        exact ihe s (k + 1) _ _ _ _ _ hs p2 (by omega) (by omega) ⟨n, o2⟩ P' hsum (ntH_g hN s _) ⟨fun a ha => by rw [← hF.1 a ha]; simp (disch := omega) only [u2_ne, u2_a, u2_k, u2_at], hF.2⟩
      · obtain ⟨g1, P'⟩ := pu_b B hs p1 c hv rfl P o1
        have h9 := hbound _ _ _ _ _ P s (par (32 + s)) hs p1
        rw [if_neg c, t_brF (n_m2 (by omega)), t_brF (by decide), t_bnd]
        refine t_mono (pass_T (v := h s (par (32 + s)) - y) hN hs p1 (by omega) (add_neg g1)) ?_
        rintro - μ1 ⟨a1, a2, a3⟩
        rw [t_brF (by decide)]
        exact ihe (par (32 + s)) (k + 1) _ _ _ _ _ p1 p2 (by omega) (by omega) ⟨n, o2⟩ P' hsum a1 ⟨fun a ha => (a2.1 a ha).trans (hF.1 a ha), a2.2.trans hF.2⟩
    · intro s k g h src snk μ hs hv hf hk hok P hsum hN hF
      obtain ⟨N1, N2, N3, N4, N5⟩ := hN.2 s hs
      have x89 : μ.1 89 s = eFr s (par s) := by rw [hF.1 89 (by omega)]; exact hS.2.2.1 s hs hv
      obtain ⟨n, hok⟩ := hok
      obtain ⟨n, rfl⟩ : ∃ n', n = n' + 1 := by
        cases n with
        | zero => exact absurd hok (fun z => z)
        | succ n => exact ⟨n, rfl⟩
      obtain ⟨o1, o2⟩ := hok
      unfold fnX2_push_L8 fnX2_push_J30 fnX2_push_J50 fnX2_push_J80 fnX2_push_J116 fnX2_push_J119 fnX2_push_J129
      rw [t_brF (show ¬ (52 : Int32) ≤ nI k from nI_ge (b := 52) (by omega) (by omega)), t_brT rfl, lk_76_3, lk_76_1, lk_77_7, t_ai (by omega), x89]
      unfold eFr
      rcases par_entry B hs hv with ⟨z1, z2⟩ | ⟨t, ht, pt, vt, rt⟩
      · rw [if_pos z1, t_brT m1_mI.symm, t_ret]
        obtain ⟨F', s'⟩ := pu_e hs z2 P
        exact ⟨g, h, _, snk, F', by rw [s']; exact hsum, hN, hF⟩
      · have o2 := o2.resolve_left (by omega)
        rw [if_neg (show ¬ par s = 64 by omega)]
        by_cases c : par s = 32 + s
        · have : t = s := by omega
          subst this
          obtain ⟨g1, P'⟩ := pu_c B hs hv c P o1
          have x89' : μ.1 89 t = mI 2 := by
            rw [x89]
            unfold eFr
            rw [if_neg (by omega), if_pos c]
          rw [c] at o2
          rw [if_pos c, t_brF (by decide), t_brT rfl, t_ai (by omega), x89', t_brT (show mI 2 = (-2 : Int32) from rfl), t_ai (by omega), N3, t_brT rfl, t_sai (by omega), add_neg g1, t_brT rfl, nI_1]
          exact ihx t (k + 1) _ _ _ _ _ hs vt (by omega) (by omega) ⟨n, o2⟩ P' hsum (ntH_g hN t _) ⟨fun a ha => by rw [← hF.1 a ha]; simp (disch := omega) only [u2_ne, u2_a, u2_k, u2_at], hF.2⟩
        · have e32 : par s - 32 = t := by omega
          have x89' : μ.1 89 s = nI t := by
            rw [x89]
            unfold eFr
            rw [if_neg (by omega), if_neg c, e32]
          have ne : t ≠ s := by omega
          have P' := pu_d B hs ht ne hv pt P
          have h9 := hbound _ _ _ _ _ P t s ht hs
          rw [pt] at o2
          rw [if_neg c, e32, t_brF (n_m1 (by omega)), t_brT rfl, t_ai (by omega), x89', t_brF (n_m2 (by omega)), t_brT rfl, t_bnd]
          refine t_mono (pass_T (v := h t s + y) hN ht hs (by omega) (nI_add _ _)) ?_
          rintro - μ1 ⟨a1, a2, a3⟩
          rw [t_brT rfl, nI_1]
          exact ihx t (k + 1) _ _ _ _ _ ht vt (by omega) (by omega) ⟨n, o2⟩ P' hsum a1 ⟨fun a ha => (a2.1 a ha).trans (hF.1 a ha), a2.2.trans hF.2⟩
theorem fl_small {b : Nat → Nat} {near far : Nat → Bool} {adj : Nat → Nat → Bool} {g src snk : Nat → Nat} {h : Nat → Nat → Nat} (F : Fl 25 b near far adj g src snk h) (hb : ∀ s, s < 25 → b s ≤ 9) : (∀ s, s < 25 → g s ≤ 9) ∧ (∀ s t, s < 25 → t < 25 → h s t ≤ 9) ∧ fb_sm src 25 ≤ 225 := by
  refine ⟨fun s hs => ?_, fun s t hs ht => ?_, ?_⟩
  · have := (F s hs).1
    have := hb s hs
    omega
  · obtain ⟨f1, f2, -⟩ := F t ht
    have := hb t ht
    have a5 : fb_sm (fun x => h x t) s + h s t ≤ fb_sm (fun x => h x t) 25 := fb_sm_part (fun x => h x t) (i := s) (n := 25) hs
    omega
  · have : fb_sm src 25 ≤ 25 * 9 := fb_sm_bound (fun k hk => by
      obtain ⟨f1, f2, -⟩ := F k hk
      have := hb k hk
      omega)
    omega
/-- what a fill leaves -/
def FrW (μ0 μ : sm_Mem) : Prop := (∀ a, (a < 76 ∨ a = 78 ∨ a = 79 ∨ (83 ≤ a ∧ a < 89) ∨ 92 ≤ a) → μ.1 a = μ0.1 a) ∧ (∀ k, k ≠ 6 → μ.1 76 k = μ0.1 76 k) ∧ (∀ k, k < 2 → μ.1 77 k = μ0.1 77 k) ∧ μ.2 = μ0.2
def FiP (b : Nat → Nat) (near far : Nat → Bool) (adj : Nat → Nat → Bool) (x : Int32) (μ0 μ : sm_Mem) : Prop := ∃ (g : Nat → Nat) (h : Nat → Nat → Nat) (src snk : Nat → Nat) (vis : Nat → Bool), Fl 25 b near far adj g src snk h ∧ x = nI (fb_sm src 25) ∧ μ.1 77 2 = nI (fb_sm src 25) ∧ NtH 77 near far adj b g h μ ∧ MinC 25 b near far adj (fb_sm src 25) vis (fun s => vis (32 + s)) ∧ MkE vis μ ∧ MkL vis μ ∧ FrW μ0 μ
theorem filC_L {near far : Nat → Bool} {adj : Nat → Nat → Bool} {b : Nat → Nat} (hb : ∀ s, s < 25 → b s ≤ 9) (hA : ∀ s, adj s s = false) {μ0 : sm_Mem} :
    ∀ (f k : Nat) (g : Nat → Nat) (h : Nat → Nat → Nat) (src snk : Nat → Nat) (μ : sm_Mem), 226 - fb_sm src 25 < f → k ≤ fb_sm src 25 → Fl 25 b near far adj g src snk h → NtH 77 near far adj b g h μ → μ.1 77 2 = nI (fb_sm src 25) → FrW μ0 μ → T (fnX2_fill_L2 f 76 (nI k)) μ (fun x μ' => FiP b near far adj x μ0 μ') := by
  intro f
  induction f with
  | zero =>
    intro k g h src snk μ z
    omega
  | succ f ih =>
    intro k g h src snk μ hf hk F N h2 hW
    obtain ⟨s1, s2, s3⟩ := fl_small F hb
    have hss : ∀ s, s < 25 → h s s = 0 := by
      intro s hs
      refine Classical.byContradiction (fun hn => ?_)
      have := (F s hs).2.2.2.2.2 s hs (by omega)
      rw [hA] at this
      cases this
    unfold fnX2_fill_L2
    rw [t_brF (show ¬ (999 : Int32) ≤ nI k from nI_ge (b := 999) (by omega) (by omega)), t_bnd]
    refine t_mono (search_T hA hss (fun s hs => ⟨by have := s1 s hs; omega, by have := hb s hs; omega⟩) N) ?_
    rintro x μ1 ⟨q, vis, par, rk, e, B, S, E, L, Fs, cs⟩
    have N1 := frS_nt Fs N
    have m2 : μ1.1 77 2 = nI (fb_sm src 25) := by rw [Fs.2.2.1 2 (by omega) (by omega)]; exact h2
    have hW1 : FrW μ0 μ1 := ⟨fun a ha => (Fs.1 a (by omega) (by omega) (by omega)).trans (hW.1 a ha), fun k k1 => (Fs.2.1 k k1).trans (hW.2.1 k k1), fun k k1 => (Fs.2.2.1 k (by omega) (by omega)).trans (hW.2.2.1 k k1), Fs.2.2.2.trans hW.2.2.2⟩
    rcases cs with ⟨rfl, st, cl, nf⟩ | ⟨s, hs, rfl, hv, hfar⟩
    · unfold fnX2_fill_J19
      rw [t_brT m1_mI.symm, lk_76_1, t_gi, t_ret]
      exact ⟨g, h, src, snk, vis, F, m2, m2, N1, sb_done F hA B st cl nf, E, L, hW1⟩
    · have e50 := sb_le B
      have rk50 := (B.2.1 (32 + s) (Or.inr (by omega)) hv).1
      obtain ⟨y, y1, y2, y3, y4⟩ := (nar_L (fun s hs => ⟨by have := s1 s hs; omega, by have := hb s hs; omega, (F s hs).1⟩) (fun s t hs ht => by have := s2 s t hs ht; omega) N1 B S 4096).1 s 999 0 hs hv (by omega) (by omega) (by omega) (by omega)
      have y9 : y ≤ 9 := by
        have o1 := y4.1
        obtain ⟨p1, -, -⟩ := par_exit B hs hv
        unfold rs at o1
        rw [if_neg (by omega)] at o1
        rw [show 32 + s - 32 = s by omega] at o1
        have := hb s hs
        have := s2 s (par (32 + s)) hs p1
        split at o1 <;> omega
      rw [t_brF (n_m1 (by omega)), t_bnd]
      unfold fnX2_narrowest
      rw [li_999, li_0, t_eq y1, t_bnd]
      unfold fnX2_push
      refine t_mono ((push_L hb y9 B (μ0 := μ1) (v := fb_sm src 25 + y) S 4096).1 s 0 g h src _ μ1 hs hv (by omega) (by omega) ⟨_, y4⟩ (pu_start F hs hfar) rfl N1 ⟨fun _ _ => rfl, rfl⟩) ?_
      rintro - μ2 ⟨g', h', src', snk', F', e', N', fr⟩
      have m2' : μ2.1 77 2 = nI (fb_sm src 25) := by rw [fr.1 77 (by omega)]; exact m2
      rw [lk_76_1, t_gi, m2', t_si, nI_add, nI_1]
      refine ih (k + 1) g' h' src' snk' _ (by omega) (by omega) F' (ntH_fr (μ := μ2) (by simp (disch := omega) only [u2_ne, u2_a, u2_k, u2_at]) (by simp (disch := omega) only [u2_ne, u2_a, u2_k, u2_at]) (fun a q1 q2 => (by simp (disch := omega) only [u2_ne, u2_a, u2_k, u2_at])) N') (by rw [e']; simp (disch := omega) only [u2_ne, u2_a, u2_k, u2_at]) ?_
      refine ⟨fun a ha => ?_, fun k k1 => ?_, fun k k1 => ?_, ?_⟩
      · rw [← hW1.1 a ha, ← fr.1 a (by omega)]
        simp (disch := omega) only [u2_ne, u2_a, u2_k, u2_at]
      · rw [← hW1.2.1 k k1, ← fr.1 76 (by omega)]
        simp (disch := omega) only [u2_ne, u2_a, u2_k, u2_at]
      · rw [← hW1.2.2.1 k k1, ← fr.1 77 (by omega)]
        simp (disch := omega) only [u2_ne, u2_a, u2_k, u2_at]
      · exact fr.2.trans hW1.2.2.2
theorem filC_T {near far : Nat → Bool} {adj : Nat → Nat → Bool} {b : Nat → Nat} (hb : ∀ s, s < 25 → b s ≤ 9) (hA : ∀ s, adj s s = false) {g : Nat → Nat} {h : Nat → Nat → Nat} {src snk : Nat → Nat} {μ : sm_Mem} (F : Fl 25 b near far adj g src snk h) (N : NtH 77 near far adj b g h μ) (h2 : μ.1 77 2 = nI (fb_sm src 25)) : T (fnX2_fill 76) μ (fun x μ' => FiP b near far adj x μ μ') := by
  unfold fnX2_fill
  exact filC_L hb hA 4096 0 g h src snk μ (by omega) (by omega) F N h2 ⟨fun _ _ => rfl, fun _ _ => rfl, fun _ _ => rfl, rfl⟩
