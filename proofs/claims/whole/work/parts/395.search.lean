/-! ===== THE COMPONENT'S SEARCH: the loop ===== -/
theorem and31 {n : Nat} : nI n &&& (31 : Int32) = nI (n % 32) := fa_mask n 5
/-- what a search leaves -/
def ScP (near far : Nat → Bool) (E : Nat → Nat → Prop) (x : Int32) (μ0 μ : sm_Mem) : Prop := ∃ (q : Nat → Nat) (vis : Nat → Bool) (par rk : Nat → Nat) (e : Nat), Sb near E q vis par rk e ∧ SrH q vis par e μ ∧ MkE vis μ ∧ MkL vis μ ∧ FrS μ0 μ ∧
  ((x = mI 1 ∧ (∀ s, s < 25 → near s = true → vis s = true) ∧ (∀ a c, vd a → vd c → vis a = true → E a c → vis c = true) ∧ ∀ s, s < 25 → vis (32 + s) = true → far s = false) ∨ ∃ s, s < 25 ∧ x = nI s ∧ vis (32 + s) = true ∧ far s = true)
theorem search35 {near far : Nat → Bool} {adj : Nat → Nat → Bool} {b g : Nat → Nat} {h : Nat → Nat → Nat} (hA : ∀ s, adj s s = false) (hss : ∀ s, s < 25 → h s s = 0) (hgb : ∀ s, s < 25 → g s < 100 ∧ b s < 100) {μ0 : sm_Mem} (hN : NtH 77 near far adj b g h μ0) :
    ∀ (f k : Nat) (q : Nat → Nat) (vis : Nat → Bool) (par rk : Nat → Nat) (e : Nat) (μ : sm_Mem), 50 - k < f → k ≤ e → Sb near (ed b adj g h) q vis par rk e → SrH q vis par e μ → MkE vis μ → MkL vis μ → FrS μ0 μ → (∀ s, s < 25 → near s = true → vis s = true) → (∀ i, i < k → (∀ c, vd c → ed b adj g h (q i) c → vis c = true) ∧ ∀ s, s < 25 → q i = 32 + s → far s = false) →
    T (fnX2_search_L35 f 76 (nI k)) μ (fun x μ' => ScP near far (ed b adj g h) x μ0 μ') := by
  have e_91 : ln 91 = 50 := rfl
  have e_78 : ln 78 = 25 := rfl
  have e_79 : ln 79 = 25 := rfl
  have e_80 : ln 80 = 25 := rfl
  have e_82 : ln 82 = 25 := rfl
  intro f
  induction f with
  | zero =>
    intro k q vis par rk e μ hf hke hB
    have := sb_le hB
    omega
  | succ f ih =>
    intro k q vis par rk e μ hf hke hB hS hE hL hF hst hp
    have e50 := sb_le hB
    unfold fnX2_search_L35
    rw [t_gi, hS.1]
    by_cases c1 : e ≤ k
    · have ek : e = k := by omega
      rw [t_brT (nI_le c1 (by omega)), t_ret]
      refine ⟨q, vis, par, rk, e, hB, hS, hE, hL, hF, Or.inl ⟨m1_mI, hst, ?_, ?_⟩⟩
      · intro a c va vc hv hE'
        obtain ⟨r1, r2, -⟩ := hB.2.1 a va hv
        have := (hp (rk a) (by omega)).1 c vc
        rw [r2] at this
        exact this hE'
      · intro s hs hv
        obtain ⟨r1, r2, -⟩ := hB.2.1 (32 + s) (Or.inr (by omega)) hv
        exact (hp (rk (32 + s)) (by omega)).2 s hs r2
    have N := frS_nt hF hN
    have xq := hS.2.1 k (by omega)
    obtain ⟨vq, wq, -⟩ := hB.1 k (by omega)
    rw [t_brF (nI_ge (by omega) (by omega)), lk_76_5, t_brF (nI_ge (by omega) (by omega)), t_ai (by omega), xq, t_nm, t_ai (by omega), xq, and31, lk_76_1, lk_77_5, lk_77_6, lk_77_7]
    have next : ∀ (vis1 : Nat → Bool) (μ1 : sm_Mem), EnP near (ed b adj g h) q e vis1 μ μ1 → (∀ c, vis c = true → vis1 c = true) → (∀ c, vd c → ed b adj g h (q k) c → vis1 c = true) → (∀ s, s < 25 → q k = 32 + s → far s = false) → T (fnX2_search_J171 (fnX2_search_L35 f) 76 (nI k)) μ1 (fun x μ' => ScP near far (ed b adj g h) x μ0 μ') := by
      rintro vis1 μ1 ⟨q', par', rk', e', B', S', E', L', F', le', qe⟩ mono cl nf
      unfold fnX2_search_J171
      rw [nI_1]
      refine ih (k + 1) q' vis1 par' rk' e' μ1 (by omega) (by omega) B' S' E' L' (frS_tr hF F') (fun s hs hn => mono s (hst s hs hn)) ?_
      intro i hi
      rw [qe i (by omega)]
      by_cases ci : i = k
      · subst ci
        exact ⟨cl, nf⟩
      · obtain ⟨p1, p2⟩ := hp i (by omega)
        exact ⟨fun c vc hE' => mono c (p1 c vc hE'), p2⟩
    by_cases c2 : q k < 25
    · -- an entry
      obtain ⟨N1, N2, N3, N4, N5⟩ := N.2 (q k) c2
      obtain ⟨g9, b9⟩ := hgb (q k) c2
      rw [t_brF (show ¬ (32 : Int32) ≤ nI (q k) from nI_ge (b := 32) (by omega) (by omega)), show q k % 32 = q k by omega, t_ai (by omega), N3, t_ai (by omega), N2]
      have J94 : ∀ (vis1 : Nat → Bool) (μ1 : sm_Mem), EnP near (ed b adj g h) q e vis1 μ μ1 → (∀ c, vis c = true → vis1 c = true) → (g (q k) < b (q k) → vis1 (32 + q k) = true) → T (fnX2_search_J103 (fnX2_search_L35 f) 76 (nI k) (nI (q k))) μ1 (fun x μ' => ScP near far (ed b adj g h) x μ0 μ') := by
        rintro vis1 μ1 ⟨q', par', rk', e', B', S', E', L', F', le', qe⟩ mono slf
        have Na := frS_nt F' N
        obtain ⟨-, -, -, -, M5⟩ := Na.2 (q k) c2
        unfold fnX2_search_J103
        rw [lk_76_1, lk_77_9, t_ai (by omega), t_bnd]
        refine t_mono (leave_T (a := q k) (fr := nI (q k)) ?_ ?_ B' S' E' L') ?_
        · intro i h1 h2
          rw [M5 i h2, decide_eq_false (by omega)]
          rfl
        · intro s hs hb
          rw [M5 s (by omega), decide_eq_true hs, Bool.true_and] at hb
          have hb := of_decide_eq_true hb
          have ne : s ≠ q k := fun z => by rw [z, hss (q k) c2] at hb; omega
          refine ⟨⟨vq, mono _ wq, Or.inl ⟨c2, by omega, by omega, Or.inr ⟨by omega, by rw [show 32 + s - 32 = s by omega]; exact hb⟩⟩⟩, ?_⟩
          unfold xFr
          rw [if_neg (fun z => ne z.symm)]
        · rintro - μ2 ⟨q2, par2, rk2, e2, B2, S2, E2, L2, F2, le2, qe2⟩
          refine next _ μ2 ⟨q2, par2, rk2, e2, B2, S2, E2, L2, frS_tr F' F2, by omega, fun i hi => by rw [qe2 i (by omega), qe i hi]⟩ ?_ ?_ ?_
          · intro c hc
            show (vis1 c || _) = true
            rw [mono c hc]
            rfl
          · intro c vc hE'
            show (vis1 c || (decide (32 ≤ c ∧ c < 57) && bt (μ1.1 82 (q k)) (c - 32))) = true
            rcases hE' with ⟨z1, z2, z3, z4⟩ | ⟨z1, z2, z3, z4⟩
            · rcases z4 with ⟨y1, y2⟩ | ⟨y1, y2⟩
              · rw [y1, slf y2]
                rfl
              · rw [M5 (c - 32) (by omega), decide_eq_true (p := c - 32 < 25) (by omega), decide_eq_true y2, decide_eq_true (p := 32 ≤ c ∧ c < 57) ⟨z2, z3⟩]
                simp
            · omega
          · intro s hs z
            omega
      by_cases c3 : b (q k) ≤ g (q k)
      · rw [t_brT (nI_le c3 (by omega))]
        exact J94 vis μ ⟨q, par, rk, e, hB, hS, hE, hL, frS_rf μ, Nat.le_refl _, fun _ _ => rfl⟩ (fun _ z => z) (fun z => by omega)
      · rw [t_brF (nI_ge (by omega) (by omega)), t_bnd]
        refine t_mono (leave_T (a := q k) (fr := (-2 : Int32)) ?_ ?_ hB hS hE hL) ?_
        · intro i h1 h2
          rw [k_1 (q k) (by omega) i h2, decide_eq_false (by omega)]
        · intro s hs hb
          rw [k_1 (q k) (by omega) s (by omega)] at hb
          have hb := of_decide_eq_true hb
          subst hb
          refine ⟨⟨vq, wq, Or.inl ⟨c2, by omega, by omega, Or.inl ⟨rfl, by omega⟩⟩⟩, ?_⟩
          unfold xFr
          rw [if_pos rfl]
          rfl
        · rintro - μ1 hP
          refine J94 _ μ1 hP ?_ ?_
          · intro c hc
            show (vis c || _) = true
            rw [hc]
            rfl
          · intro _
            show (vis (32 + q k) || (decide (32 ≤ 32 + q k ∧ 32 + q k < 57) && bt ((1 : Int32) <<< (nI (q k) &&& 31)) (32 + q k - 32))) = true
            rw [show 32 + q k - 32 = q k by omega, k_1 (q k) (by omega) (q k) (by omega), decide_eq_true rfl, decide_eq_true (show 32 ≤ 32 + q k ∧ 32 + q k < 57 by omega)]
            simp
    · -- an exit
      obtain ⟨s, hs, hqk⟩ : ∃ s, s < 25 ∧ q k = 32 + s := by
        unfold vd at vq
        exact ⟨q k - 32, by omega, by omega⟩
      obtain ⟨N1, N2, N3, N4, N5⟩ := N.2 s hs
      obtain ⟨g9, b9⟩ := hgb s hs
      have nf := (N.1 s (by omega)).2
      rw [decide_eq_true hs, Bool.true_and] at nf
      rw [hqk, t_brT (show (32 : Int32) ≤ nI (32 + s) from nI_le (a := 32) (by omega) (by omega)), show (32 + s) % 32 = s by omega, t_gi]
      cases hfar : far s
      · rw [hfar] at nf
        rw [t_brT ((k_t0 _ (by omega)).mpr nf), t_ai (by omega), t_bnd]
        have wq' : vis (32 + s) = true := by rw [← hqk]; exact wq
        have vq' : vd (32 + s) := by rw [← hqk]; exact vq
        refine t_mono (enter_T (a := 32 + s) (fr := nI s) ?_ ?_ hB hS hE hL) ?_
        · intro i h1 h2
          rw [N1 i h2, decide_eq_false (by omega)]
          rfl
        · intro t ht hb
          rw [N1 t (by omega), decide_eq_true ht, Bool.true_and] at hb
          have ne : s ≠ t := fun z => by rw [z, hA] at hb; cases hb
          refine ⟨Or.inr ⟨vq', wq', Or.inr ⟨by omega, by omega, ht, Or.inr ⟨by omega, by rw [show 32 + s - 32 = s by omega]; exact hb⟩⟩⟩, ?_⟩
          unfold eFr
          rw [if_neg (by omega), if_neg (by omega), show 32 + s - 32 = s by omega]
        · rintro - μ1 hP
          obtain ⟨q', par', rk', e', B', S', E', L', F', le', qe⟩ := id hP
          have Na := frS_nt F' N
          obtain ⟨-, -, M3, -, -⟩ := Na.2 s hs
          have mono : ∀ c, vis c = true → (vis c || (decide (c < 25) && bt (μ.1 78 s) c)) = true := fun c hc => by rw [hc]; rfl
          have ad : ∀ c, vd c → ed b adj g h (32 + s) c → (c = s ∧ 0 < g s) ∨ (vis c || (decide (c < 25) && bt (μ.1 78 s) c)) = true := by
            intro c vc hE'
            rcases hE' with ⟨z1, z2, z3, z4⟩ | ⟨z1, z2, z3, z4⟩
            · omega
            · rcases z4 with ⟨y1, y2⟩ | ⟨y1, y2⟩
              · left
                have : c = s := by omega
                subst this
                exact ⟨rfl, y2⟩
              · right
                rw [show 32 + s - 32 = s by omega] at y2
                rw [N1 c (by omega), decide_eq_true z3, y2]
                simp
          rw [t_ai (by omega), M3]
          by_cases c4 : g s ≤ 0
          · rw [t_brT (show nI (g s) ≤ 0 from nI_le (b := 0) c4 (by omega))]
            refine next _ μ1 hP mono ?_ ?_
            · intro c vc hE'
              rw [hqk] at hE'
              rcases ad c vc hE' with z | z
              · omega
              · exact z
            · intro t ht z
              have : t = s := by omega
              rw [this]
              exact hfar
          · rw [t_brF (show ¬ nI (g s) ≤ 0 from nI_ge (a := 0) (by omega) (by omega)), t_bnd]
            refine t_mono (enter_T (a := 32 + s) (fr := (-2 : Int32)) ?_ ?_ B' S' E' L') ?_
            · intro i h1 h2
              rw [k_1 s (by omega) i h2, decide_eq_false (by omega)]
            · intro t ht hb
              rw [k_1 s (by omega) t (by omega)] at hb
              have hb := of_decide_eq_true hb
              subst hb
              refine ⟨Or.inr ⟨vq', mono _ wq', Or.inr ⟨by omega, by omega, ht, Or.inl ⟨rfl, by omega⟩⟩⟩, ?_⟩
              unfold eFr
              rw [if_neg (by omega), if_pos rfl]
              rfl
            · rintro - μ2 ⟨q2, par2, rk2, e2, B2, S2, E2, L2, F2, le2, qe2⟩
              refine next _ μ2 ⟨q2, par2, rk2, e2, B2, S2, E2, L2, frS_tr F' F2, by omega, fun i hi => by rw [qe2 i (by omega), qe i hi]⟩ ?_ ?_ ?_
              · intro c hc
                show ((vis c || (decide (c < 25) && bt (μ.1 78 s) c)) || _) = true
                rw [mono c hc]
                rfl
              · intro c vc hE'
                rw [hqk] at hE'
                show ((vis c || (decide (c < 25) && bt (μ.1 78 s) c)) || (decide (c < 25) && bt ((1 : Int32) <<< (nI s &&& 31)) c)) = true
                rcases ad c vc hE' with ⟨z1, -⟩ | z
                · subst z1
                  rw [k_1 c (by omega) c (by omega), decide_eq_true rfl, decide_eq_true hs]
                  simp
                · rw [z]
                  rfl
              · intro t ht z
                have : t = s := by omega
                rw [this]
                exact hfar
      · rw [hfar] at nf
        rw [t_brF (fun z => by rw [k_t0 _ (show s < 32 by omega), nf] at z; cases z), t_ret]
        exact ⟨q, vis, par, rk, e, hB, hS, hE, hL, hF, Or.inr ⟨s, hs, rfl, by rw [← hqk]; exact wq, hfar⟩⟩
theorem search_T {near far : Nat → Bool} {adj : Nat → Nat → Bool} {b g : Nat → Nat} {h : Nat → Nat → Nat} (hA : ∀ s, adj s s = false) (hss : ∀ s, s < 25 → h s s = 0) (hgb : ∀ s, s < 25 → g s < 100 ∧ b s < 100) {μ : sm_Mem} (hN : NtH 77 near far adj b g h μ) : T (fnX2_search 76) μ (fun x μ' => ScP near far (ed b adj g h) x μ μ') := by
  unfold fnX2_search
  rw [lk_76_1, t_si, t_si, t_si, t_gi, t_bnd]
  have x0 : (u2 (u2 (u2 μ.1 77 3 0) 77 4 0) 76 6 0, μ.2).1 77 0 = μ.1 77 0 := (by simp (disch := omega) only [u2_ne, u2_a, u2_k, u2_at])
  have F0 : FrS μ (u2 (u2 (u2 μ.1 77 3 0) 77 4 0) 76 6 0, μ.2) := ⟨fun a h1 h2 h3 => (by simp (disch := omega) only [u2_ne, u2_a, u2_k, u2_at]), fun k h1 => (by simp (disch := omega) only [u2_ne, u2_a, u2_k, u2_at]), fun k h1 h2 => (by simp (disch := omega) only [u2_ne, u2_a, u2_k, u2_at]), rfl⟩
  rw [show (((u2 (((u2 (((u2 μ.1 77 3 0, μ.2) : sm_Mem)).1 77 4 0, ((u2 μ.1 77 3 0, μ.2) : sm_Mem).2) : sm_Mem)).1 76 6 0, (((u2 (((u2 μ.1 77 3 0, μ.2) : sm_Mem)).1 77 4 0, ((u2 μ.1 77 3 0, μ.2) : sm_Mem).2) : sm_Mem)).2) : sm_Mem)).1 77 0 = μ.1 77 0 from x0]
  refine t_mono (enter_T (near := near) (E := ed b adj g h) (vis := fun _ => false) (a := 64) (fr := (-1 : Int32)) ?_ ?_ (q := fun _ => 0) (par := fun _ => 0) (rk := fun _ => 0) (e := 0) ⟨fun i hi => (by omega), fun c _ hv => (by cases hv), fun X _ _ c _ hv => (by cases hv)⟩ ⟨(by simp (disch := omega) only [u2_ne, u2_a, u2_k, u2_at]; rfl), fun i hi => (by omega), fun s _ hv => (by cases hv), fun s _ hv => (by cases hv)⟩ ?_ ?_) ?_
  · intro i h1 h2
    rw [(hN.1 i h2).1, decide_eq_false (by omega)]
    rfl
  · intro s hs hb
    rw [(hN.1 s (by omega)).1, decide_eq_true hs, Bool.true_and] at hb
    exact ⟨Or.inl ⟨rfl, hb⟩, by unfold eFr; rw [if_pos rfl]; rfl⟩
  · intro s hs
    rw [show (u2 (u2 (u2 μ.1 77 3 0) 77 4 0) 76 6 0, μ.2).1 77 3 = (0 : Int32) from (by simp (disch := omega) only [u2_ne, u2_a, u2_k, u2_at]), b_0, Bool.and_false]
  · intro s hs
    rw [show (u2 (u2 (u2 μ.1 77 3 0) 77 4 0) 76 6 0, μ.2).1 77 4 = (0 : Int32) from (by simp (disch := omega) only [u2_ne, u2_a, u2_k, u2_at]), b_0, Bool.and_false]
  · rintro - μ1 ⟨q', par', rk', e', B', S', E', L', F', le', qe⟩
    refine search35 hA hss hgb hN 4096 0 q' _ par' rk' e' μ1 (by omega) (by omega) B' S' E' L' (frS_tr F0 F') ?_ (fun i hi => by omega)
    intro s hs hn
    show (false || (decide (s < 25) && bt (μ.1 77 0) s)) = true
    rw [(hN.1 s (by omega)).1, decide_eq_true hs, hn]
    rfl
