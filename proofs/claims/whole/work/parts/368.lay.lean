/-! ===== LINKS ARE LAID ===== -/
theorem sq_iff {a b : Nat} : a * a ≤ b * b ↔ a ≤ b := ⟨fun h => by
  rcases Nat.lt_or_ge b a with q | q
  · have := Nat.mul_self_lt_mul_self q
    omega
  · exact q, fun h => Nat.mul_le_mul h h⟩
theorem stp_near {w : Nat → Nat} {s r : Nat} (hs : s < 24) : stp w 98 s r = decide (w (11 + 7 * s) ≤ r) := by
  unfold stp sq yOf dd
  apply decide_eq_decide.mpr
  rw [if_pos (Or.inl (by omega)), if_pos rfl, if_neg (by omega), if_neg (by omega)]
  simp only [Nat.zero_sub, Nat.sub_zero, Nat.zero_add]
  rw [sq_iff]
  exact ⟨fun h => h.2, fun h => ⟨by omega, h⟩⟩
theorem stp_far {w : Nat → Nat} {s r : Nat} (hs : s < 24) (hy : w (11 + 7 * s) ≤ w 1) : stp w s 99 r = decide (w 1 - w (11 + 7 * s) ≤ r) := by
  unfold stp sq yOf dd
  apply decide_eq_decide.mpr
  rw [if_pos (Or.inr (by omega)), if_neg (by omega), if_neg (by omega), if_neg (show ¬ 99 = 98 by omega), if_pos rfl]
  rw [show w (11 + 7 * s) - w 1 = 0 by omega, Nat.zero_add, Nat.zero_add, sq_iff]
  exact ⟨fun h => h.2, fun h => ⟨by omega, h⟩⟩
theorem dd_comm (a b : Nat) : dd a b = dd b a := by
  unfold dd
  omega
theorem stp_comm (w : Nat → Nat) (a b r : Nat) : stp w a b r = stp w b a r := by
  unfold stp sq
  apply decide_eq_decide.mpr
  rw [dd_comm (yOf w a), dd_comm (w (10 + 7 * a))]
  constructor
  · rintro ⟨h1, h2⟩
    refine ⟨fun e => h1 e.symm, ?_⟩
    split at h2 <;> split <;> first | omega | (exfalso; omega)
  · rintro ⟨h1, h2⟩
    refine ⟨fun e => h1 e.symm, ?_⟩
    split at h2 <;> split <;> first | omega | (exfalso; omega)
theorem lay46 {k26 : Nat → Nat → Int32 → sm_M Unit} {Q : Unit → sm_Mem → Prop} {s y : Nat} (hs : s < 24) (hy : 1 ≤ y) (hy2 : y ≤ 12) {μ0 : sm_Mem}
    (ex : ∀ μ' : sm_Mem, (∀ a, a ≠ 33 → μ'.1 a = μ0.1 a) → μ'.2 = μ0.2 → (∀ r, 1 ≤ r → r ≤ 9 → ∀ t, t < 32 → bt (μ'.1 33 r) t = (bt (μ0.1 33 r) t || decide (t = s ∧ y ≤ r))) → T (fnX3_lay_J70 k26 32 14 (nI s) ((1 : Int32) <<< (nI s &&& 31))) μ' Q) :
    ∀ (f k : Nat) (μ : sm_Mem), 10 - k < f → y ≤ k → k ≤ 12 → (∀ a, a ≠ 33 → μ.1 a = μ0.1 a) → μ.2 = μ0.2 → (∀ r, 1 ≤ r → r ≤ 9 → ∀ t, t < 32 → bt (μ.1 33 r) t = (bt (μ0.1 33 r) t || decide (t = s ∧ y ≤ r ∧ r < k))) → T (fnX3_lay_L46 k26 f 32 14 (nI s) ((1 : Int32) <<< (nI s &&& 31)) (nI k)) μ Q := by
  have e_33 : ln 33 = 10 := rfl
  intro f
  induction f with
  | zero =>
    intro k μ h
    omega
  | succ f ih =>
    intro k μ hf hk hk2 ho h2 hb
    unfold fnX3_lay_L46
    simp (disch := (first | assumption | omega)) only [t_br, li_9, nI_ltI, lk_32_0, li_1, nI_add]
    by_cases c : 9 < k
    · rw [if_pos c]
      refine ex μ ho h2 ?_
      intro r r1 r2 t ht
      rw [hb r r1 r2 t ht]
      congr 1
      apply decide_eq_decide.mpr
      omega
    · rw [if_neg c]
      simp (disch := (first | assumption | omega)) only [t_ai, t_sai]
      refine ih (k + 1) _ (by omega) (by omega) (by omega) ?_ h2 ?_
      · intro a ha
        rw [← ho a ha]
        simp (disch := omega) only [u2_ne, u2_a, u2_k, u2_at]
      · intro r r1 r2 t ht
        by_cases e : r = k
        · subst e
          simp (disch := (first | assumption | omega)) only [u2_at]
          have := k_1 s (by omega) t ht
          rw [show ((1 : Int32) <<< (nI s &&& 31)) = (nI 1) <<< (nI s &&& 31) from rfl] at this
          rw [b_or, hb r r1 r2 t ht, this]
          cases bt (μ0.1 33 r) t
          · by_cases e2 : t = s
            · simp [e2, hk]
            · simp [e2]
          · simp
        · simp (disch := (first | assumption | omega)) only [u2_k e]
          rw [hb r r1 r2 t ht]
          congr 1
          apply decide_eq_decide.mpr
          omega
theorem lay83 {k26 : Nat → Nat → Int32 → sm_M Unit} {Q : Unit → sm_Mem → Prop} {s y : Nat} (hs : s < 24) (hy : 1 ≤ y) (hy2 : y ≤ 12) {μ0 : sm_Mem}
    (ex : ∀ μ' : sm_Mem, (∀ a, a ≠ 34 → μ'.1 a = μ0.1 a) → μ'.2 = μ0.2 → (∀ r, 1 ≤ r → r ≤ 9 → ∀ t, t < 32 → bt (μ'.1 34 r) t = (bt (μ0.1 34 r) t || decide (t = s ∧ y ≤ r))) → T (fnX3_lay_J107 k26 32 14 (nI s)) μ' Q) :
    ∀ (f k : Nat) (μ : sm_Mem), 10 - k < f → y ≤ k → k ≤ 12 → (∀ a, a ≠ 34 → μ.1 a = μ0.1 a) → μ.2 = μ0.2 → (∀ r, 1 ≤ r → r ≤ 9 → ∀ t, t < 32 → bt (μ.1 34 r) t = (bt (μ0.1 34 r) t || decide (t = s ∧ y ≤ r ∧ r < k))) → T (fnX3_lay_L83 k26 f 32 14 (nI s) ((1 : Int32) <<< (nI s &&& 31)) (nI k)) μ Q := by
  have e_34 : ln 34 = 10 := rfl
  intro f
  induction f with
  | zero =>
    intro k μ h
    omega
  | succ f ih =>
    intro k μ hf hk hk2 ho h2 hb
    unfold fnX3_lay_L83
    simp (disch := (first | assumption | omega)) only [t_br, li_9, nI_ltI, lk_32_1, li_1, nI_add]
    by_cases c : 9 < k
    · rw [if_pos c]
      refine ex μ ho h2 ?_
      intro r r1 r2 t ht
      rw [hb r r1 r2 t ht]
      congr 1
      apply decide_eq_decide.mpr
      omega
    · rw [if_neg c]
      simp (disch := (first | assumption | omega)) only [t_ai, t_sai]
      refine ih (k + 1) _ (by omega) (by omega) (by omega) ?_ h2 ?_
      · intro a ha
        rw [← ho a ha]
        simp (disch := omega) only [u2_ne, u2_a, u2_k, u2_at]
      · intro r r1 r2 t ht
        by_cases e : r = k
        · subst e
          simp (disch := (first | assumption | omega)) only [u2_at]
          have := k_1 s (by omega) t ht
          rw [show ((1 : Int32) <<< (nI s &&& 31)) = (nI 1) <<< (nI s &&& 31) from rfl] at this
          rw [b_or, hb r r1 r2 t ht, this]
          cases bt (μ0.1 34 r) t
          · by_cases e2 : t = s
            · simp [e2, hk]
            · simp [e2]
          · simp
        · simp (disch := (first | assumption | omega)) only [u2_k e]
          rw [hb r r1 r2 t ht]
          congr 1
          apply decide_eq_decide.mpr
          omega
theorem link_L {a b q : Nat} (ha : a < 24) (hb : b < 24) (hab : a ≠ b) (hq : q ≤ 600) {μ0 : sm_Mem} : ∀ (f k : Nat) (μ : sm_Mem), k < f → k ≤ 9 → (∀ c, c ≠ 35 → μ.1 c = μ0.1 c) → μ.2 = μ0.2 →
    (∀ r, 1 ≤ r → r ≤ 9 → ∀ u, u < 24 → ∀ t, t < 32 → bt (μ.1 35 (24 * r + u)) t = (bt (μ0.1 35 (24 * r + u)) t || decide (((u = a ∧ t = b) ∨ (u = b ∧ t = a)) ∧ q ≤ r * r ∧ k < r))) →
    T (fnX3_link_L4 f 32 (nI a) (nI b) (nI q) (nI k)) μ (fun _ μ' => (∀ c, c ≠ 35 → μ'.1 c = μ0.1 c) ∧ μ'.2 = μ0.2 ∧ ∀ r, 1 ≤ r → r ≤ 9 → ∀ u, u < 24 → ∀ t, t < 32 → bt (μ'.1 35 (24 * r + u)) t = (bt (μ0.1 35 (24 * r + u)) t || decide (((u = a ∧ t = b) ∨ (u = b ∧ t = a)) ∧ q ≤ r * r))) := by
  have e_35 : ln 35 = 240 := rfl
  intro f
  induction f with
  | zero =>
    intro k μ h
    omega
  | succ f ih =>
    intro k μ hf hk ho h2 hbt
    unfold fnX3_link_L4
    have hkk : k * k ≤ 81 := Nat.mul_le_mul hk hk
    simp (disch := (first | assumption | omega)) only [t_br, li_0, nI_leI, t_ret, pk_mul, nI_ltI, lk_32_2, li_24, nI_add]
    by_cases c : k ≤ 0
    · rw [if_pos c]
      refine ⟨ho, h2, ?_⟩
      intro r r1 r2 u hu t ht
      rw [hbt r r1 r2 u hu t ht]
      congr 1
      apply decide_eq_decide.mpr
      constructor
      · rintro ⟨h1, h3, h4⟩
        exact ⟨h1, h3⟩
      · rintro ⟨h1, h3⟩
        exact ⟨h1, h3, by omega⟩
    · rw [if_neg c]
      by_cases c2 : k * k < q
      · rw [if_pos c2]
        refine ⟨ho, h2, ?_⟩
        intro r r1 r2 u hu t ht
        rw [hbt r r1 r2 u hu t ht]
        congr 1
        apply decide_eq_decide.mpr
        constructor
        · rintro ⟨h1, h3, h4⟩
          exact ⟨h1, h3⟩
        · rintro ⟨h1, h3⟩
          refine ⟨h1, h3, ?_⟩
          rcases Nat.lt_or_ge k r with z | z
          · exact z
          · have : r * r ≤ k * k := Nat.mul_le_mul z z
            omega
      · rw [if_neg c2]
        have km : nI k + (-1 : Int32) = nI (k - 1) := sb_m1 (by omega)
        rw [show k * 24 = 24 * k by omega]
        simp (disch := (first | assumption | omega)) only [t_ai, t_sai, km]
        refine ih (k - 1) _ (by omega) (by omega) ?_ h2 ?_
        · intro x hx
          rw [← ho x hx]
          simp (disch := omega) only [u2_ne, u2_a, u2_k, u2_at]
        · intro r r1 r2 u hu t ht
          have hA := k_1 a (by omega) t ht
          have hB := k_1 b (by omega) t ht
          by_cases e : r = k
          · subst e
            have hq' : q ≤ r * r := by omega
            by_cases ea : u = a
            · subst ea
              simp (disch := (first | assumption | omega)) only [u2_k, u2_at]
              rw [b_or, hbt r r1 r2 u hu t ht, hB]
              cases bt (μ0.1 35 (24 * r + u)) t
              · by_cases e2 : t = b
                · simp [e2, hq', show r - 1 < r by omega]
                · simp [e2, hab]
              · simp
            · by_cases eb : u = b
              · subst eb
                simp (disch := (first | assumption | omega)) only [u2_k, u2_at]
                rw [b_or, hbt r r1 r2 u hu t ht, hA]
                cases bt (μ0.1 35 (24 * r + u)) t
                · by_cases e2 : t = a
                  · simp [e2, hq', show r - 1 < r by omega]
                  · simp [e2, ea]
                · simp
              · simp (disch := (first | assumption | omega)) only [u2_k, u2_at]
                rw [hbt r r1 r2 u hu t ht]
                simp [ea, eb]
          · simp (disch := (first | assumption | omega)) only [u2_k, u2_at]
            rw [hbt r r1 r2 u hu t ht]
            congr 1
            apply decide_eq_decide.mpr
            constructor
            · rintro ⟨h1, h3, h4⟩
              exact ⟨h1, h3, by omega⟩
            · rintro ⟨h1, h3, h4⟩
              exact ⟨h1, h3, by omega⟩
theorem link_T {a b q : Nat} (ha : a < 24) (hb : b < 24) (hab : a ≠ b) (hq : q ≤ 600) {μ : sm_Mem} : T (fnX3_link 32 (nI a) (nI b) (nI q)) μ (fun _ μ' => (∀ c, c ≠ 35 → μ'.1 c = μ.1 c) ∧ μ'.2 = μ.2 ∧ ∀ r, 1 ≤ r → r ≤ 9 → ∀ u, u < 24 → ∀ t, t < 32 → bt (μ'.1 35 (24 * r + u)) t = (bt (μ.1 35 (24 * r + u)) t || decide (((u = a ∧ t = b) ∨ (u = b ∧ t = a)) ∧ q ≤ r * r))) := by
  unfold fnX3_link
  refine link_L ha hb hab hq 4096 9 μ (by omega) (by omega) (fun _ _ => rfl) rfl ?_
  intro r r1 r2 u hu t ht
  rw [decide_eq_false (by omega), Bool.or_false]
theorem lay110 {k26 : Nat → Nat → Int32 → sm_M Unit} {Q : Unit → sm_Mem → Prop} {w : Nat → Nat} (hG : Good w) {s : Nat} (hs : s < w 3) {μ0 : sm_Mem} (hR : RH 14 w μ0)
    (ex : ∀ μ' : sm_Mem, (∀ a, a ≠ 35 → μ'.1 a = μ0.1 a) → μ'.2 = μ0.2 → (∀ r, 1 ≤ r → r ≤ 9 → ∀ u, u < 24 → ∀ t, t < 32 → bt (μ'.1 35 (24 * r + u)) t = (bt (μ0.1 35 (24 * r + u)) t || decide (((u = s ∧ t < s) ∨ (t = s ∧ u < s)) ∧ sq w u t ≤ r * r))) → T (fnX3_lay_J136 k26 32 14 (nI s)) μ' Q) :
    ∀ (f k : Nat) (μ : sm_Mem), s - k < f → k ≤ s → (∀ a, a ≠ 35 → μ.1 a = μ0.1 a) → μ.2 = μ0.2 → (∀ r, 1 ≤ r → r ≤ 9 → ∀ u, u < 24 → ∀ t, t < 32 → bt (μ.1 35 (24 * r + u)) t = (bt (μ0.1 35 (24 * r + u)) t || decide (((u = s ∧ t < k) ∨ (t = s ∧ u < k)) ∧ sq w u t ≤ r * r))) → T (fnX3_lay_L110 k26 f 32 14 (nI s) (nI k)) μ Q := by
  have n := hG.1
  intro f
  induction f with
  | zero =>
    intro k μ h
    omega
  | succ f ih =>
    intro k μ hf hk ho h2 hb
    unfold fnX3_lay_L110
    simp (disch := (first | assumption | omega)) only [t_br, nI_leI, li_1, nI_add]
    by_cases c : s ≤ k
    · have : k = s := by omega
      subst this
      rw [if_pos c]
      exact ex μ ho h2 hb
    · have hR1 : RH 14 w μ := rh_fr (fun a q1 q2 => ho a (by omega)) hR
      have hsq := sq_le hG (a := s) (b := k) (Or.inl hs) (Or.inl (by omega))
      rw [if_neg c, t_bnd, t_eq (square7 hR1 hG (Or.inl hs) (Or.inl (show k < w 3 by omega))), t_bnd]
      refine t_mono (link_T (a := s) (b := k) (by omega) (by omega) (by omega) (by omega)) ?_
      rintro - μ' ⟨a1, a2, a3⟩
      refine ih (k + 1) μ' (by omega) (by omega) (fun a ha => (a1 a ha).trans (ho a ha)) (a2.trans h2) ?_
      intro r r1 r2 u hu t ht
      rw [a3 r r1 r2 u hu t ht, hb r r1 r2 u hu t ht, Bool.or_assoc]
      congr 1
      have key : ∀ (A B C : Prop) [Decidable A] [Decidable B] [Decidable C], (A ∨ B ↔ C) → (decide A || decide B) = decide C := by
        intro A B C _ _ _ h
        by_cases hA : A <;> by_cases hB : B <;> simp_all
      apply key
      constructor
      · rintro (⟨h1, h3⟩ | ⟨h1, h3⟩)
        · exact ⟨by omega, h3⟩
        · refine ⟨by omega, ?_⟩
          rcases h1 with ⟨rfl, rfl⟩ | ⟨rfl, rfl⟩
          · exact h3
          · have := stp_comm w t u r
            unfold stp at this
            have e := decide_eq_decide.mp this
            exact (e.mp ⟨by omega, h3⟩).2
      · rintro ⟨h1, h3⟩
        by_cases c1 : (u = s ∧ t < k) ∨ (t = s ∧ u < k)
        · exact Or.inl ⟨c1, h3⟩
        · have c2 : (u = s ∧ t = k) ∨ (u = k ∧ t = s) := by omega
          refine Or.inr ⟨c2, ?_⟩
          rcases c2 with ⟨rfl, rfl⟩ | ⟨rfl, rfl⟩
          · exact h3
          · have := stp_comm w u t r
            unfold stp at this
            have e := decide_eq_decide.mp this
            exact (e.mp ⟨by omega, h3⟩).2
/-- the links among the first stones -/
def LKp (w : Nat → Nat) (n : Nat) (μ : sm_Mem) : Prop := ∀ r, 1 ≤ r → r ≤ 9 → ∀ s, s < 32 → bt (μ.1 33 r) s = (decide (s < n) && stp w 98 s r) ∧ bt (μ.1 34 r) s = (decide (s < n) && stp w s 99 r) ∧ ∀ t, t < 24 → bt (μ.1 35 (24 * r + t)) s = (decide (t < n ∧ s < n) && stp w t s r)
theorem lay26 {w : Nat → Nat} (hG : Good w) {μ0 : sm_Mem} (hR : RH 14 w μ0) : ∀ (f s : Nat) (μ : sm_Mem), w 3 - s < f → s ≤ w 3 → (∀ a, (a < 33 ∨ 36 ≤ a) → μ.1 a = μ0.1 a) → μ.2 = μ0.2 → LKp w s μ → T (fnX3_lay_L26 f 32 14 (nI s)) μ (fun _ μ' => (∀ a, (a < 33 ∨ 36 ≤ a) → μ'.1 a = μ0.1 a) ∧ μ'.2 = μ0.2 ∧ LKS w μ') := by
  have n := hG.1
  have e_16 : ln 16 = 24 := rfl
  intro f
  induction f with
  | zero =>
    intro k μ h
    omega
  | succ f ih =>
    intro s μ hf hs ho h2 hl
    have hR1 : RH 14 w μ := rh_fr (fun a q1 q2 => ho a (by omega)) hR
    have r4 := hR1.1.2.2.2.2.1
    unfold fnX3_lay_L26
    simp (disch := (first | assumption | omega)) only [t_gi, r4, t_br, nI_leI, t_ret, t_nm, lk_14_9]
    by_cases c : w 3 ≤ s
    · have : s = w 3 := by omega
      subst this
      rw [if_pos c]
      exact ⟨ho, h2, hl⟩
    · rw [if_neg c]
      have g := hG.2.2.2.1 s (by omega)
      have gw := good_wide hG
      have x : μ.1 16 s = nI (w (11 + 7 * s)) := (hR1.2.2.2.1 s (by omega)).2.1
      simp (disch := (first | assumption | omega)) only [t_ai, x]
      refine lay46 (μ0 := μ) (y := w (11 + 7 * s)) (by omega) (by omega) (by omega) ?_ 4096 _ μ (by omega) (by omega) (by omega) (fun _ _ => rfl) rfl ?_
      · intro μ1 a1 a2 a3
        have hR2 : RH 14 w μ1 := rh_fr (fun a q1 q2 => a1 a (by omega)) hR1
        have x1 : μ1.1 16 s = nI (w (11 + 7 * s)) := (hR2.2.2.2.1 s (by omega)).2.1
        have x2 := hR2.1.2.1
        unfold fnX3_lay_J70
        simp (disch := (first | assumption | omega)) only [t_gi, x2, lk_14_9, t_ai, x1, t_nm, pk_sub]
        refine lay83 (μ0 := μ1) (y := w 1 - w (11 + 7 * s)) (by omega) (by omega) (by omega) ?_ 4096 _ μ1 (by omega) (by omega) (by omega) (fun _ _ => rfl) rfl ?_
        · intro μ2 b1 b2 b3
          have hR3 : RH 14 w μ2 := rh_fr (fun a q1 q2 => b1 a (by omega)) hR2
          unfold fnX3_lay_J107
          refine lay110 hG (s := s) (by omega) (μ0 := μ2) hR3 ?_ 4096 0 μ2 (by omega) (by omega) (fun _ _ => rfl) rfl ?_
          · intro μ3 c1 c2 c3
            unfold fnX3_lay_J136
            simp only [li_1, nI_add]
            refine ih (s + 1) μ3 (by omega) (by omega) ?_ (c2.trans (b2.trans (a2.trans h2))) ?_
            · intro a ha
              rw [c1 a (by omega), b1 a (by omega), a1 a (by omega), ho a ha]
            · intro r r1 r2 t ht
              obtain ⟨l1, l2, l3⟩ := hl r r1 r2 t ht
              refine ⟨?_, ?_, ?_⟩
              · rw [c1 33 (by omega), b1 33 (by omega), a3 r r1 r2 t ht, l1]
                by_cases e : t = s
                · subst e
                  rw [stp_near (by omega)]
                  simp
                · by_cases q : t < s
                  · simp [e, q, show t < s + 1 by omega]
                  · simp [e, q, show ¬ t < s + 1 by omega]
              · rw [c1 34 (by omega), b3 r r1 r2 t ht, a1 34 (by omega), l2]
                by_cases e : t = s
                · subst e
                  rw [stp_far (by omega) (by omega)]
                  simp
                · by_cases q : t < s
                  · simp [e, q, show t < s + 1 by omega]
                  · simp [e, q, show ¬ t < s + 1 by omega]
              · intro u hu
                rw [c3 r r1 r2 u hu t ht, b1 35 (by omega), a1 35 (by omega), l3 u hu]
                by_cases q : u < s ∧ t < s
                · rw [decide_eq_true q, Bool.true_and, decide_eq_false (by omega), Bool.or_false, decide_eq_true (by omega), Bool.true_and]
                · rw [decide_eq_false q, Bool.false_and, Bool.false_or]
                  by_cases q2 : u < s + 1 ∧ t < s + 1
                  · rw [decide_eq_true q2, Bool.true_and]
                    unfold stp
                    apply decide_eq_decide.mpr
                    constructor
                    · rintro ⟨h1, h3⟩
                      exact ⟨by omega, h3⟩
                    · rintro ⟨h1, h3⟩
                      exact ⟨by omega, h3⟩
                  · rw [decide_eq_false q2, Bool.false_and, decide_eq_false (by omega)]
          · intro r r1 r2 u hu t ht
            rw [decide_eq_false (by omega), Bool.or_false]
        · intro r r1 r2 t ht
          rw [decide_eq_false (by omega), Bool.or_false]
      · intro r r1 r2 t ht
        rw [decide_eq_false (by omega), Bool.or_false]
theorem lay_T {w : Nat → Nat} (hG : Good w) {μ : sm_Mem} (hR : RH 14 w μ) : T (fnX3_lay 32 14) μ (fun _ μ' => (∀ a, (a < 33 ∨ 36 ≤ a) → μ'.1 a = μ.1 a) ∧ μ'.2 = μ.2 ∧ LKS w μ') := by
  unfold fnX3_lay
  have n := hG.1
  simp only [t_bnd, lk_32_0, lk_32_1, lk_32_2, t_eq (fill_eq _ _ _)]
  have hR1 : RH 14 w (u1 (u1 (u1 μ.1 33 (fun k => if k < ln 33 then 0 else μ.1 33 k)) 34 (fun k => if k < ln 34 then 0 else u1 μ.1 33 (fun k => if k < ln 33 then 0 else μ.1 33 k) 34 k)) 35 (fun k => if k < ln 35 then 0 else u1 (u1 μ.1 33 (fun k => if k < ln 33 then 0 else μ.1 33 k)) 34 (fun k => if k < ln 34 then 0 else u1 μ.1 33 (fun k => if k < ln 33 then 0 else μ.1 33 k) 34 k) 35 k), μ.2) := by
    refine rh_fr (μ := μ) (fun a q1 q2 => ?_) hR
    simp (disch := omega) only [u1_ne]
  have e_33 : ln 33 = 10 := rfl
  have e_34 : ln 34 = 10 := rfl
  have e_35 : ln 35 = 240 := rfl
  refine t_mono (lay26 hG hR1 4096 0 _ (by omega) (by omega) (fun _ _ => rfl) rfl ?_) ?_
  · intro r r1 r2 s hs
    simp (disch := omega) only [u1_ne, u1_at, e_33, e_34, e_35]
    refine ⟨?_, ?_, ?_⟩
    · rw [if_pos (by omega), b_0]
      simp
    · rw [if_pos (by omega), b_0]
      simp
    · intro t ht
      rw [if_pos (by omega), b_0]
      simp
  · rintro - μ' ⟨a1, a2, a3⟩
    refine ⟨fun a ha => ?_, a2, a3⟩
    rw [a1 a ha]
    simp (disch := omega) only [u1_ne]
