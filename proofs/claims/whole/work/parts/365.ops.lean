/-! ===== row, write, paste ===== -/
theorem op_slots {β : Type} {f g : sm_M β} (h : ∀ w μ, Core w μ → T f μ (fun r μ1 => T g μ1 (fun r' μ2 => r' = r ∧ (∀ a, (a < 96 ∨ 104 ≤ a) → a ≠ 168 → a ≠ 169 → μ2.1 a = μ.1 a) ∧ SL μ2))) : op2 Inv f g := by
  rintro μ ⟨w, hC, hO⟩
  obtain ⟨r, μ1, h1, r', μ2, h2, e, d, sl⟩ := h w μ hC
  subst e
  obtain ⟨g, r, s, wh, l, t, sl0, im, rf⟩ := hC
  refine ⟨r', μ1, μ2, h1, h2, w, ⟨g, rh_fr (fun a q1 q2 => d a (by omega) (by omega) (by omega)) r, sh_fr (fun a q1 q2 => d a (by omega) (by omega) (by omega)) s, wh_fr (fun i _ => by rw [d 147 (by omega) (by omega) (by omega)]) wh, lks_fr (fun a q1 q2 => d a (by omega) (by omega) (by omega)) l, ?_, sl, ?_, ?_⟩, ?_⟩
  · have d146 := d 146 (by omega) (by omega) (by omega)
    exact tp_fr (d 0 (by omega) (by omega) (by omega)) (d 1 (by omega) (by omega) (by omega)) (d 150 (by omega) (by omega) (by omega)) (by rw [d146]) (by rw [d146]) (by rw [d146]) t
  · exact im_fr (fun a q1 q2 => d a (by omega) (by omega) (by omega)) (d 95 (by omega) (by omega) (by omega)) (d 148 (by omega) (by omega) (by omega)) (d 149 (by omega) (by omega) (by omega)) im
  · have d146 := d 146 (by omega) (by omega) (by omega)
    exact rf_fr (by rw [d146]) (by rw [d146]) (by rw [d146]) rf
  · exact oh_fr (d 42 (by omega) (by omega) (by omega)) (d 45 (by omega) (by omega) (by omega)) hO
theorem u2_u1 {β : Type} {f : Nat → Nat → β} {r j : Nat} {g : Nat → β} {x : β} : u2 (u1 f r g) r j x = u1 f r (fun k => if k = j then x else g k) := by
  funext b k
  unfold u2 u1
  by_cases h : b = r
  · simp [h]
  · simp [h]
theorem fill_L {r : Nat} {x : Int32} {μ : sm_Mem} : ∀ (f j : Nat), ln r - j < f → j ≤ ln r → fnJ7_fill_53178_L5 f r x (nI j) (nI (ln r)) (u1 μ.1 r (fun k => if k < j then x else μ.1 r k), μ.2) = some ((), (u1 μ.1 r (fun k => if k < ln r then x else μ.1 r k), μ.2)) := by
  intro f
  have hs := ln_small r
  induction f with
  | zero =>
    intro j h
    omega
  | succ f ih =>
    intro j hf hj
    unfold fnJ7_fill_53178_L5
    simp (disch := omega) only [m_br, nI_leI, m_ret]
    by_cases c : ln r ≤ j
    · have : j = ln r := by omega
      rw [if_pos c, this]
    · rw [if_neg c]
      unfold m_sai
      rw [if_pos (t_in (by omega) hs), nI_clamp (by omega), nI_1]
      simp only [u2_u1]
      have e : (fun k => if k = j then x else if k < j then x else μ.1 r k) = (fun k => if k < j + 1 then x else μ.1 r k) := by
        funext k
        by_cases h1 : k = j
        · rw [if_pos h1, if_pos (by omega)]
        · rw [if_neg h1]
          by_cases h2 : k < j
          · rw [if_pos h2, if_pos (by omega)]
          · rw [if_neg h2, if_neg (by omega)]
      rw [e]
      exact ih (j + 1) (by omega) (by omega)
theorem fill_eq (r : Nat) (x : Int32) (μ : sm_Mem) : fnJ7_fill_53178 r x μ = some ((), (u1 μ.1 r (fun k => if k < ln r then x else μ.1 r k), μ.2)) := by
  unfold fnJ7_fill_53178
  simp only [m_nm, li_0]
  have hs := ln_small r
  have e : (u1 μ.1 r (fun k => if k < 0 then x else μ.1 r k), μ.2) = μ := by
    have : u1 μ.1 r (fun k => if k < 0 then x else μ.1 r k) = μ.1 := by
      funext b k
      unfold u1
      by_cases h : b = r
      · simp [h]
      · simp [h]
    rw [this]
  have := fill_L (r := r) (x := x) (μ := μ) 4096 0 (by omega) (by omega)
  rw [e] at this
  exact this
theorem fillL_L {r : Nat} {x : Int64} {μ : sm_Mem} : ∀ (f j : Nat), ln r - j < f → j ≤ ln r → fnJ7_fill_d0a16_L6 f r x (nI j) (nI (ln r)) (μ.1, u1 μ.2.1 r (fun k => if k < j then x else μ.2.1 r k), μ.2.2) = some ((), (μ.1, u1 μ.2.1 r (fun k => if k < ln r then x else μ.2.1 r k), μ.2.2)) := by
  intro f
  have hs := ln_small r
  induction f with
  | zero =>
    intro j h
    omega
  | succ f ih =>
    intro j hf hj
    unfold fnJ7_fill_d0a16_L6
    simp (disch := omega) only [m_br, nI_leI, m_ret]
    by_cases c : ln r ≤ j
    · have : j = ln r := by omega
      rw [if_pos c, this]
    · rw [if_neg c]
      unfold m_sal
      rw [if_pos (t_in (by omega) hs), nI_clamp (by omega), nI_1]
      simp only [u2_u1]
      have e : (fun k => if k = j then x else if k < j then x else μ.2.1 r k) = (fun k => if k < j + 1 then x else μ.2.1 r k) := by
        funext k
        by_cases h1 : k = j
        · rw [if_pos h1, if_pos (by omega)]
        · rw [if_neg h1]
          by_cases h2 : k < j
          · rw [if_pos h2, if_pos (by omega)]
          · rw [if_neg h2, if_neg (by omega)]
      rw [e]
      exact ih (j + 1) (by omega) (by omega)
theorem fillL_eq (r : Nat) (x : Int64) (μ : sm_Mem) : fnJ7_fill_d0a16 r x μ = some ((), (μ.1, u1 μ.2.1 r (fun k => if k < ln r then x else μ.2.1 r k), μ.2.2)) := by
  unfold fnJ7_fill_d0a16
  simp only [m_nm, li_0]
  have hs := ln_small r
  have e : (μ.1, u1 μ.2.1 r (fun k => if k < 0 then x else μ.2.1 r k), μ.2.2) = μ := by
    have : u1 μ.2.1 r (fun k => if k < 0 then x else μ.2.1 r k) = μ.2.1 := by
      funext b k
      unfold u1
      by_cases h : b = r
      · simp [h]
      · simp [h]
    rw [this]
  have := fillL_L (r := r) (x := x) (μ := μ) 4096 0 (by omega) (by omega)
  rw [e] at this
  exact this
theorem row12_L {j : Nat} (hj : j < 4) {μ : sm_Mem} : ∀ (f i : Nat), 60 - i < f → i ≤ 60 → fnX12_row_L52 f 146 (nI j) (nI i) (μ.1, u1 μ.2.1 170 (fun k => if 60 * j ≤ k ∧ k < 60 * j + i then 0 else μ.2.1 170 k), μ.2.2) = some ((0 : Int32), (μ.1, u1 μ.2.1 170 (fun k => if 60 * j ≤ k ∧ k < 60 * j + 60 then 0 else μ.2.1 170 k), μ.2.2)) := by
  intro f
  have e_170 : ln 170 = 240 := rfl
  induction f with
  | zero =>
    intro i h
    omega
  | succ f ih =>
    intro i hf hi
    unfold fnX12_row_L52
    simp (disch := omega) only [m_br, li_60, nI_leI, m_ret, lk_146_45, pk_mul, nI_add]
    by_cases c : 60 ≤ i
    · have : i = 60 := by omega
      rw [if_pos c, this]
    · rw [if_neg c]
      unfold m_sal
      rw [if_pos (t_in (by omega) (by omega)), nI_clamp (by omega), nI_1]
      simp only [u2_u1]
      have e : (fun k => if k = 60 * j + i then (0 : Int64) else if 60 * j ≤ k ∧ k < 60 * j + i then 0 else μ.2.1 170 k) = (fun k => if 60 * j ≤ k ∧ k < 60 * j + (i + 1) then 0 else μ.2.1 170 k) := by
        funext k
        by_cases h1 : k = 60 * j + i
        · rw [if_pos h1, if_pos (by omega)]
        · rw [if_neg h1]
          by_cases h2 : 60 * j ≤ k ∧ k < 60 * j + i
          · rw [if_pos h2, if_pos (by omega)]
          · rw [if_neg h2, if_neg (by omega)]
      rw [e]
      exact ih (i + 1) (by omega) (by omega)
theorem row12_eq {j : Nat} (hj : j < 4) (μ : sm_Mem) : fnX12_row_L52 4096 146 (nI j) (0 : Int32) μ = some ((0 : Int32), (μ.1, u1 μ.2.1 170 (fun k => if 60 * j ≤ k ∧ k < 60 * j + 60 then 0 else μ.2.1 170 k), μ.2.2)) := by
  have e : (μ.1, u1 μ.2.1 170 (fun k => if 60 * j ≤ k ∧ k < 60 * j + 0 then 0 else μ.2.1 170 k), μ.2.2) = μ := by
    have : u1 μ.2.1 170 (fun k => if 60 * j ≤ k ∧ k < 60 * j + 0 then 0 else μ.2.1 170 k) = μ.2.1 := by
      funext b k
      unfold u1
      by_cases h : b = 170
      · simp only [h, if_true]
        rw [if_neg (by omega)]
      · simp [h]
    rw [this]
  have := row12_L hj (μ := μ) 4096 0 (by omega) (by omega)
  rw [e] at this
  exact this
/-- the other slots are as they were -/
theorem sl_other {i j : Nat} (hi : i < 4) (hj : j < 4) (hij : i ≠ j) {μ μ' : sm_Mem} (h : SLj i μ) (a1 : ∀ a, a ≠ 96 + 2 * j → 96 ≤ a → a < 104 → μ'.1 a = μ.1 a) (a2 : μ'.1 168 i = μ.1 168 i) (a3 : μ'.1 169 i = μ.1 169 i) (a4 : ∀ a, a ≠ 97 + 2 * j → 96 ≤ a → a < 104 → μ'.2.1 a = μ.2.1 a) (a5 : ∀ k, (k < 60 * j ∨ 60 * j + 60 ≤ k) → μ'.2.1 170 k = μ.2.1 170 k) : SLj i μ' := by
  unfold SLj at h ⊢
  rw [a1 (96 + 2 * i) (by omega) (by omega) (by omega), a2, a3, a4 (97 + 2 * i) (by omega) (by omega) (by omega)]
  rcases h with h | ⟨n, wd, q1, q2, q3, q4, q5, q6, q7, q8⟩
  · exact Or.inl h
  · exact Or.inr ⟨n, wd, q1, q2, q3, q4, q5, q6, q7, fun k hk => (q8 k hk).trans (a5 _ (by omega)).symm⟩
theorem op_row (v wd m : Int32) : op2 Inv (fnX11_row 0 v wd m) (fnX12_row 146 v wd m) := by
  apply op_slots
  intro w μ hC
  obtain ⟨hG, hR, hS, hW, hL, hT, hSl, hI, hF⟩ := id hC
  have e_92 : ln 92 = 4 := rfl
  have e_168 : ln 168 = 4 := rfl
  have e_169 : ln 169 = 4 := rfl
  have same : ∀ r : Int32, r = r ∧ (∀ a, (a < 96 ∨ 104 ≤ a) → a ≠ 168 → a ≠ 169 → μ.1 a = μ.1 a) ∧ SL μ := fun r => ⟨rfl, fun _ _ _ _ => rfl, hSl⟩
  unfold fnX11_row fnX12_row
  simp only [t_bnd, t_eq (isSlot11 v _), t_br, bI_0, lk_0_14, t_eq (isSlot12 v _), t_ret, t_eq (in_eq _ _ _ _), t64_0, t64_3]
  cases hh : rg v 0 3
  · simp only [reduceCtorEq, if_true, if_false, eq_self]
    exact ⟨(by first | rfl | trivial), fun _ _ _ _ => (by first | rfl | trivial), hSl⟩
  simp only [reduceCtorEq, if_true, if_false, eq_self]
  have r1 : rg wd 0 3 = decide (¬ wd < 0 ∧ ¬ 3 < wd) := by
    unfold rg
    apply decide_eq_decide.mpr
    rw [fa_lt, fa_lt]
    have : (0 : Int32).toInt = 0 := by decide
    have : (3 : Int32).toInt = 3 := by decide
    omega
  by_cases c1 : wd < 0
  · rw [if_pos c1, r1, decide_eq_false (by simp [c1])]
    simp only [reduceCtorEq, if_true, if_false, eq_self]
    exact ⟨(by first | rfl | trivial), fun _ _ _ _ => (by first | rfl | trivial), hSl⟩
  rw [if_neg c1]
  by_cases c2 : 3 < wd
  · rw [if_pos c2, r1, decide_eq_false (by simp [c2])]
    simp only [reduceCtorEq, if_true, if_false, eq_self]
    exact ⟨(by first | rfl | trivial), fun _ _ _ _ => (by first | rfl | trivial), hSl⟩
  rw [if_neg c2]
  have r2 : rg wd 0 3 = true := by
    rw [r1]
    simp [c1, c2]
  rw [r2]
  simp only [reduceCtorEq, if_true, if_false, eq_self]
  by_cases c3 : m ≤ 60
  · simp only [if_pos c3]
    by_cases c4 : (0 : Int32) ≤ m
    · simp only [if_pos c4]
      obtain ⟨j, -, hj, rfl⟩ := rg_nat (a := 0) (b := 3) hh (by omega)
      obtain ⟨d, -, hd, rfl⟩ := rg_nat (a := 0) (b := 3) r2 (by omega)
      obtain ⟨s1, s2, s3⟩ := slot_ap (j := j) (by omega)
      obtain ⟨N, hN, rfl⟩ := nI_of2 (x := m) (M := 60) (n := 60) (by decide) (by rw [fa_lt]; rw [fa_le] at c4; omega) c3
      unfold fnX8_clear
      simp (disch := (first | assumption | omega)) only [t_ap, s1, t_si, t_bnd, s2, t_eq (fillL_eq _ _ _), t_ret, lk_146_43, lk_146_44, t_sai]
      rw [t_eq (row12_eq (j := j) (by omega) _)]
      refine ⟨(by first | rfl | trivial), fun a h1 h2 h3 => (by simp (disch := omega) only [u2_ne, u2_a, u2_k, u2_at]), ?_⟩
      intro i hi
      by_cases e : i = j
      · subst e
        refine Or.inr ⟨N, d, hN, hd, (by simp (disch := omega) only [u2_ne, u2_a, u2_k, u2_at]), (by simp (disch := omega) only [u2_ne, u2_a, u2_k, u2_at]), (by simp (disch := omega) only [u2_ne, u2_a, u2_k, u2_at]), (by simp (disch := omega) only [u2_ne, u2_a, u2_k, u2_at]), (by simp (disch := omega) only [u2_ne, u2_a, u2_k, u2_at]), ?_⟩
        intro k hk
        simp only [u1_at, u1_ne (show 97 + 2 * i ≠ 170 by omega), s3]
        rw [if_pos hk, if_pos (by omega)]
      · refine sl_other hi (j := j) (by omega) e (hSl i hi) (fun a q1 q2 q3 => (by simp (disch := omega) only [u2_ne, u2_a, u2_k, u2_at])) (by simp (disch := omega) only [u2_ne, u2_a, u2_k, u2_at]) (by simp (disch := omega) only [u2_ne, u2_a, u2_k, u2_at]) ?_ ?_
        · intro a q1 q2 q3
          simp only [u1_ne (show a ≠ 170 by omega), u1_ne q1]
        · intro k hk
          simp only [u1_at, u1_ne (show 170 ≠ 97 + 2 * j by omega)]
          rw [if_neg (by omega)]
    · simp only [if_neg c4, t_ret]
      exact ⟨(by first | rfl | trivial), fun _ _ _ _ => (by first | rfl | trivial), hSl⟩
  · simp only [if_neg c3, t_ret]
    exact ⟨(by first | rfl | trivial), fun _ _ _ _ => (by first | rfl | trivial), hSl⟩
theorem op_write (v i : Int32) (x : Int64) : op2 Inv (fnX11_write 0 v i x) (fnX12_write 146 v i x) := by
  apply op_slots
  intro w μ hC
  obtain ⟨hG, hR, hS, hW, hL, hT, hSl, hI, hF⟩ := id hC
  have e_92 : ln 92 = 4 := rfl
  have e_168 : ln 168 = 4 := rfl
  have e_169 : ln 169 = 4 := rfl
  have e_170 : ln 170 = 240 := rfl
  unfold fnX11_write fnX12_write
  simp only [t_bnd, t_eq (isSlot11 v _), t_br, bI_0, lk_0_14, t_eq (isSlot12 v _), t_ret]
  cases hh : rg v 0 3
  · simp only [reduceCtorEq, if_true, if_false, eq_self]
    exact ⟨(by first | rfl | trivial), fun _ _ _ _ => (by first | rfl | trivial), hSl⟩
  simp only [reduceCtorEq, if_true, if_false, eq_self]
  obtain ⟨j, -, hj, rfl⟩ := rg_nat (a := 0) (b := 3) hh (by omega)
  obtain ⟨s1, s2, s3⟩ := slot_ap (j := j) (by omega)
  simp (disch := (first | assumption | omega)) only [t_ap, s1, t_gi, lk_146_43, t_ai]
  rcases hSl j (by omega) with ⟨q1, q2⟩ | ⟨N, wd, q1, q2, q3, q4, q5, q6, q7, q8⟩
  · rw [t_brT q1, t_ret, t_brT (show μ.1 168 j = (-1 : Int32) from q2), t_ret]
    exact ⟨(by first | rfl | trivial), fun _ _ _ _ => (by first | rfl | trivial), hSl⟩
  · rw [t_brF (by rw [q3]; exact ok_m1)]
    unfold fnX8_put
    have r1 : rg i 0 ((N : Int) - 1) = decide (¬ i < 0 ∧ i < nI N) := by
      unfold rg
      apply decide_eq_decide.mpr
      rw [fa_lt, fa_lt, nI_toInt (by omega)]
      have : (0 : Int32).toInt = 0 := by decide
      omega
    have g1 : ∀ μ1 : sm_Mem, μ1.1 168 = μ.1 168 → μ1.1 169 = μ.1 169 → ∀ Q, T (m_ai 168 (nI j) fun x31 => m_bnd (fnX12_in i.toInt64 (0 : Int64) ((x31 - (1 : Int32)).toInt64)) fun x35 => m_br ((bI x35) = 0) (m_ret (-7 : Int32)) (m_ai (lk 146 44) (nI j) fun x60 => m_bnd (fnX12_cut_ x x60) fun x61 => m_sal (lk 146 45) (((60 : Int32) * nI j) + i) x61 <| m_ret (0 : Int32))) μ1 Q ↔ if rg i 0 ((N : Int) - 1) = false then Q (-7) μ1 else T (m_bnd (fnX12_cut_ x (nI wd)) fun x61 => m_sal 170 (((60 : Int32) * nI j) + i) x61 <| m_ret (0 : Int32)) μ1 Q := by
      intro μ1 h1 h2 Q
      have k1 : μ1.1 168 j = nI N := by rw [h1]; exact q7
      have k2 : μ1.1 169 j = nI wd := by rw [h2]; exact q5
      simp (disch := (first | assumption | omega)) only [t_ai, k1, t_bnd, t_eq (in_eq _ _ _ _), pred_toInt, t64_0, t_br, bI_0, t_ret, lk_146_44, k2, lk_146_45]
    simp (disch := (first | assumption | omega)) only [t_ap, s1, s2, t_bnd, t_br, t_gi, t_ret, q4, q6]
    by_cases c1 : i < 0
    · rw [if_pos c1]
      simp only [bI_0, reduceCtorEq, if_true, if_false, eq_self]
      rw [if_neg (show ¬ μ.1 168 j = (-1 : Int32) by rw [q7]; exact n_m1 (by omega)), g1 μ rfl rfl, r1, if_pos (by simp [c1])]
      exact ⟨(by first | rfl | trivial), fun _ _ _ _ => (by first | rfl | trivial), hSl⟩
    rw [if_neg c1]
    by_cases c2 : i < nI N
    · obtain ⟨k, hk, rfl⟩ : ∃ k, k < N ∧ i = nI k := rg_nI (n := N) (by rw [r1]; simp [c1, c2]) (by omega)
      rw [if_pos c2]
      simp (disch := (first | assumption | omega)) only [t_nm, t_sal, t_ret, bI_0, reduceCtorEq, if_true, if_false, eq_self]
      rw [if_neg (show ¬ μ.1 168 j = (-1 : Int32) by rw [q7]; exact n_m1 (by omega))]
      refine (g1 _ (by rfl) (by rfl) _).mpr ?_
      rw [r1, if_neg (by simp [c1, c2])]
      unfold fnX12_cut_
      simp (disch := (first | assumption | omega)) only [t_bnd, t_nm, t_ret, li_60, pk_mul, nI_add, t_sal]
      refine ⟨(by first | rfl | trivial), fun _ _ _ _ => (by first | rfl | trivial), ?_⟩
      intro z hz
      by_cases e : z = j
      · subst e
        refine Or.inr ⟨N, wd, q1, q2, q3, q4, q5, q6, q7, ?_⟩
        intro y hy
        by_cases e2 : y = k
        · subst e2
          simp (disch := omega) only [u2_ne, u2_a, u2_k, u2_at]
        · simp (disch := omega) only [u2_ne, u2_a, u2_k, u2_at]
          exact q8 y hy
      · refine sl_other hz (j := j) (by omega) e (hSl z hz) (fun _ _ _ _ => rfl) rfl rfl ?_ ?_
        · intro a p1 p2 p3
          simp (disch := omega) only [u2_ne]
        · intro y hy
          simp (disch := omega) only [u2_k, u2_a]
    · rw [if_neg c2]
      simp only [bI_0, reduceCtorEq, if_true, if_false, eq_self]
      rw [if_neg (show ¬ μ.1 168 j = (-1 : Int32) by rw [q7]; exact n_m1 (by omega)), g1 μ rfl rfl, r1, if_pos (by simp [c2])]
      exact ⟨(by first | rfl | trivial), fun _ _ _ _ => (by first | rfl | trivial), hSl⟩
theorem has_eq {c N : Nat} {μ : sm_Mem} (hN : N ≤ 60) (hs : μ.1 c 2 = nI N) (i n : Int32) : fnX8_has c i n μ = some (decide (¬ i < 0 ∧ ¬ n < 0 ∧ i.toInt + n.toInt ≤ N), μ) := by
  unfold fnX8_has
  have e1 : (nI N).toInt64.toInt = (N : Int) := by rw [Int32.toInt_toInt64, nI_toInt (by omega)]
  simp only [m_br, m_ret, m_gi, hs, lg_cmp_gt, fa_lt64, e1, lg_i2l_add]
  by_cases c1 : i < 0
  · simp [c1]
  · by_cases c2 : n < 0
    · simp [c1, c2]
    · by_cases c3 : (N : Int) < i.toInt + n.toInt
      · simp [c1, c2, c3, show ¬ i.toInt + n.toInt ≤ N by omega]
      · simp [c1, c2, c3, show i.toInt + n.toInt ≤ N by omega]
theorem paste_L2 {j k n : Nat} (hj : j < 4) (hk : k + n ≤ 60) {μ : sm_Mem} : ∀ (f x : Nat), n - x < f → x ≤ n → fnX12_paste_L150 f 146 (nI j) (nI k) (nI n) (nI x) (μ.1, u1 μ.2.1 170 (fun z => if 60 * j + k ≤ z ∧ z < 60 * j + k + x then μ.2.1 171 (z - (60 * j + k)) else μ.2.1 170 z), μ.2.2) = some ((0 : Int32), (μ.1, u1 μ.2.1 170 (fun z => if 60 * j + k ≤ z ∧ z < 60 * j + k + n then μ.2.1 171 (z - (60 * j + k)) else μ.2.1 170 z), μ.2.2)) := by
  intro f
  have e_170 : ln 170 = 240 := rfl
  have e_171 : ln 171 = 60 := rfl
  induction f with
  | zero =>
    intro x h
    omega
  | succ f ih =>
    intro x hf hx
    unfold fnX12_paste_L150
    simp (disch := omega) only [m_br, li_60, nI_leI, m_ret, lk_146_45, lk_146_46, pk_mul, nI_add]
    by_cases c : n ≤ x
    · have : x = n := by omega
      rw [if_pos c, this]
    · rw [if_neg c, e_al (by omega)]
      unfold m_sal
      rw [if_pos (t_in (by omega) (by omega)), nI_clamp (by omega), nI_1]
      simp only [u2_u1, u1_ne (show 171 ≠ 170 by omega)]
      have e : (fun z => if z = 60 * j + k + x then μ.2.1 171 x else if 60 * j + k ≤ z ∧ z < 60 * j + k + x then μ.2.1 171 (z - (60 * j + k)) else μ.2.1 170 z) = (fun z => if 60 * j + k ≤ z ∧ z < 60 * j + k + (x + 1) then μ.2.1 171 (z - (60 * j + k)) else μ.2.1 170 z) := by
        funext z
        by_cases h1 : z = 60 * j + k + x
        · rw [if_pos h1, if_pos (by omega), show z - (60 * j + k) = x by omega]
        · rw [if_neg h1]
          by_cases h2 : 60 * j + k ≤ z ∧ z < 60 * j + k + x
          · rw [if_pos h2, if_pos (by omega)]
          · rw [if_neg h2, if_neg (by omega)]
      rw [e]
      exact ih (x + 1) (by omega) (by omega)
theorem paste_L1 {s i j k n : Nat} (hs : s < 4) (hi : i + n ≤ 60) {μ : sm_Mem} : ∀ (f x : Nat), n - x < f → x ≤ n → fnX12_paste_L113 f 146 (nI s) (nI i) (nI j) (nI k) (nI n) (nI x) (μ.1, u1 μ.2.1 171 (fun z => if z < x then μ.2.1 170 (60 * s + i + z) else μ.2.1 171 z), μ.2.2) = fnX12_paste_L150 4096 146 (nI j) (nI k) (nI n) (0 : Int32) (μ.1, u1 μ.2.1 171 (fun z => if z < n then μ.2.1 170 (60 * s + i + z) else μ.2.1 171 z), μ.2.2) := by
  intro f
  have e_170 : ln 170 = 240 := rfl
  have e_171 : ln 171 = 60 := rfl
  induction f with
  | zero =>
    intro x h
    omega
  | succ f ih =>
    intro x hf hx
    unfold fnX12_paste_L113 fnX12_paste_J147
    simp (disch := omega) only [m_br, li_60, nI_leI, m_ret, lk_146_45, lk_146_46, pk_mul, nI_add]
    by_cases c : n ≤ x
    · have : x = n := by omega
      rw [if_pos c, this]
    · rw [if_neg c, e_al (by omega)]
      unfold m_sal
      rw [if_pos (t_in (by omega) (by omega)), nI_clamp (by omega), nI_1]
      simp only [u2_u1, u1_ne (show 170 ≠ 171 by omega)]
      have e : (fun z => if z = x then μ.2.1 170 (60 * s + i + x) else if z < x then μ.2.1 170 (60 * s + i + z) else μ.2.1 171 z) = (fun z => if z < x + 1 then μ.2.1 170 (60 * s + i + z) else μ.2.1 171 z) := by
        funext z
        by_cases h1 : z = x
        · rw [if_pos h1, if_pos (by omega), h1]
        · rw [if_neg h1]
          by_cases h2 : z < x
          · rw [if_pos h2, if_pos (by omega)]
          · rw [if_neg h2, if_neg (by omega)]
      rw [e]
      exact ih (x + 1) (by omega) (by omega)
theorem paste_eq {s i j k n : Nat} (hs : s < 4) (hj : j < 4) (hi : i + n ≤ 60) (hk : k + n ≤ 60) (μ : sm_Mem) : ∃ L, fnX12_paste_L113 4096 146 (nI s) (nI i) (nI j) (nI k) (nI n) (0 : Int32) μ = some ((0 : Int32), (μ.1, L, μ.2.2)) ∧ (∀ z, L 170 z = if 60 * j + k ≤ z ∧ z < 60 * j + k + n then μ.2.1 170 (60 * s + i + (z - (60 * j + k))) else μ.2.1 170 z) ∧ ∀ a, a ≠ 170 → a ≠ 171 → L a = μ.2.1 a := by
  have e : ∀ (M : Nat → Nat → Int64) (r : Nat) (g : Nat → Int64), (∀ z, g z = M r z) → u1 M r g = M := by
    intro M r g h
    funext b z
    unfold u1
    by_cases q : b = r
    · rw [if_pos q, h z, q]
    · rw [if_neg q]
  have a := paste_L1 (j := j) (k := k) hs hi (μ := μ) 4096 0 (by omega) (by omega)
  rw [e μ.2.1 171 _ (fun z => by rw [if_neg (by omega)])] at a
  have b := paste_L2 hj hk (μ := (μ.1, u1 μ.2.1 171 (fun z => if z < n then μ.2.1 170 (60 * s + i + z) else μ.2.1 171 z), μ.2.2)) 4096 0 (by omega) (by omega)
  simp only at b
  rw [e _ 170 _ (fun z => by rw [if_neg (by omega)])] at b
  refine ⟨_, a.trans b, ?_, ?_⟩
  · intro z
    rw [u1_at]
    by_cases h : 60 * j + k ≤ z ∧ z < 60 * j + k + n
    · rw [if_pos h, if_pos h, u1_at, if_pos (by omega)]
    · rw [if_neg h, if_neg h, u1_ne (by omega)]
  · intro a h1 h2
    rw [u1_ne h1, u1_ne h2]
theorem op_paste (s i t k n : Int32) : op2 Inv (fnX11_paste 0 s i t k n) (fnX12_paste 146 s i t k n) := by
  apply op_slots
  intro w μ hC
  obtain ⟨hG, hR, hS, hW, hL, hT, hSl, hI, hF⟩ := id hC
  have e_92 : ln 92 = 4 := rfl
  have e_168 : ln 168 = 4 := rfl
  have e_169 : ln 169 = 4 := rfl
  have e_170 : ln 170 = 240 := rfl
  unfold fnX11_paste fnX12_paste
  simp only [t_bnd, t_eq (isSlot11 _ _), t_br, bI_0, lk_0_14, t_eq (isSlot12 _ _), t_ret]
  cases hh : rg s 0 3
  · simp only [reduceCtorEq, if_true, if_false, eq_self]
    exact ⟨(by first | rfl | trivial), fun _ _ _ _ => (by first | rfl | trivial), hSl⟩
  cases hg : rg t 0 3
  · simp only [reduceCtorEq, if_true, if_false, eq_self]
    exact ⟨(by first | rfl | trivial), fun _ _ _ _ => (by first | rfl | trivial), hSl⟩
  simp only [reduceCtorEq, if_true, if_false, eq_self]
  obtain ⟨j, -, hj, rfl⟩ := rg_nat (a := 0) (b := 3) hh (by omega)
  obtain ⟨l, -, hl, rfl⟩ := rg_nat (a := 0) (b := 3) hg (by omega)
  obtain ⟨s1, s2, s3⟩ := slot_ap (j := j) (by omega)
  obtain ⟨u1', u2', u3⟩ := slot_ap (j := l) (by omega)
  simp (disch := (first | assumption | omega)) only [t_ap, s1, u1', t_gi, lk_146_43, lk_146_44, t_ai]
  rcases hSl j (by omega) with ⟨q1, q2⟩ | ⟨N, wd, q1, q2, q3, q4, q5, q6, q7, q8⟩
  · rw [t_brT q1, t_ret, t_brT (show μ.1 168 j = (-1 : Int32) from q2), t_ret]
    exact ⟨(by first | rfl | trivial), fun _ _ _ _ => (by first | rfl | trivial), hSl⟩
  rw [t_brF (by rw [q3]; exact ok_m1)]
  have k1 : ¬ μ.1 168 j = (-1 : Int32) := by rw [q7]; exact n_m1 (by omega)
  simp (disch := (first | assumption | omega)) only [t_ap, u1', t_gi]
  rcases hSl l (by omega) with ⟨p1, p2⟩ | ⟨M, vd, p1, p2, p3, p4, p5, p6, p7, p8⟩
  · rw [t_brT p1, t_ret, t_brF k1]
    simp (disch := (first | assumption | omega)) only [t_ai]
    rw [t_brT (show μ.1 168 l = (-1 : Int32) from p2), t_ret]
    exact ⟨(by first | rfl | trivial), fun _ _ _ _ => (by first | rfl | trivial), hSl⟩
  rw [t_brF (by rw [p3]; exact ok_m1)]
  have k2 : ¬ μ.1 168 l = (-1 : Int32) := by rw [p7]; exact n_m1 (by omega)
  have m1 : μ.1 168 j = nI N := q7
  have m2 : μ.1 168 l = nI M := p7
  have e1 : (nI N).toInt64.toInt = (N : Int) := by rw [Int32.toInt_toInt64, nI_toInt (by omega)]
  have e2 : (nI M).toInt64.toInt = (M : Int) := by rw [Int32.toInt_toInt64, nI_toInt (by omega)]
  have x4 : μ.1 (96 + 2 * j) 1 = nI wd := q4
  have y4 : μ.1 (96 + 2 * l) 1 = nI vd := p4
  simp (disch := (first | assumption | omega)) only [t_ap, s1, u1', t_gi, x4, y4]
  have back : ∀ (μ1 : sm_Mem), μ1.1 = μ.1 → ∀ Q : Int32 → sm_Mem → Prop, T (m_br (μ1.1 168 j = -1) (m_ret (-6 : Int32)) (m_ai 168 (nI l) fun x32 => m_br (x32 = -1) (m_ret (-6 : Int32)) (m_ai 169 (nI j) fun x45 => m_ai 169 (nI l) fun x51 => m_br (x45 = x51) (m_br (i < 0) (m_ret (-7 : Int32)) (m_br (k < 0) (m_ret (-7 : Int32)) (m_br (n < 0) (m_ret (-7 : Int32)) (m_ai 168 (nI j) fun x83 => m_br (0 < (lg_cmp (i.toInt64 + n.toInt64) x83.toInt64)) (m_ret (-7 : Int32)) (m_ai 168 (nI l) fun x101 => m_br ((lg_cmp (k.toInt64 + n.toInt64) x101.toInt64) ≤ 0) (fnX12_paste_L113 4096 146 (nI j) i (nI l) k n (0 : Int32)) (m_ret (-7 : Int32))))))) (m_ret (-8 : Int32))))) μ1 Q ↔ if wd = vd then (if ¬ i < 0 ∧ ¬ k < 0 ∧ ¬ n < 0 ∧ i.toInt + n.toInt ≤ N ∧ k.toInt + n.toInt ≤ M then T (fnX12_paste_L113 4096 146 (nI j) i (nI l) k n (0 : Int32)) μ1 Q else Q (-7) μ1) else Q (-8) μ1 := by
    intro μ1 h1 Q
    rw [t_brF (by rw [h1]; exact k1)]
    simp (disch := (first | assumption | omega)) only [t_ai]
    rw [t_brF (show ¬ μ1.1 168 l = (-1 : Int32) by rw [h1]; exact k2)]
    simp (disch := (first | assumption | omega)) only [t_ai, h1, show μ.1 169 j = nI wd from q5, show μ.1 169 l = nI vd from p5, t_br, nI_eq, t_ret, m1, m2, lg_cmp_gt, lg_cmp_le, fa_lt64, fa_le64, e1, e2, lg_i2l_add]
    by_cases c0 : wd = vd
    · rw [if_pos c0, if_pos c0]
      by_cases c1 : i < 0
      · simp [c1]
      · by_cases c2 : k < 0
        · simp [c1, c2]
        · by_cases c3 : n < 0
          · simp [c1, c2, c3]
          · by_cases c4 : (N : Int) < i.toInt + n.toInt
            · simp [c1, c2, c3, c4, show ¬ i.toInt + n.toInt ≤ N by omega]
            · by_cases c5 : k.toInt + n.toInt ≤ M
              · simp [c1, c2, c3, c4, c5, show i.toInt + n.toInt ≤ N by omega]
              · simp [c1, c2, c3, c4, c5, show i.toInt + n.toInt ≤ N by omega]
    · rw [if_neg c0, if_neg c0]
  have quit : ∀ r : Int32, ((if wd = vd then (if ¬ i < 0 ∧ ¬ k < 0 ∧ ¬ n < 0 ∧ i.toInt + n.toInt ≤ N ∧ k.toInt + n.toInt ≤ M then (3 : Int32) else -7) else -8) = r) → r ≠ 3 → T (m_br (μ.1 168 j = -1) (m_ret (-6 : Int32)) (m_ai 168 (nI l) fun x32 => m_br (x32 = -1) (m_ret (-6 : Int32)) (m_ai 169 (nI j) fun x45 => m_ai 169 (nI l) fun x51 => m_br (x45 = x51) (m_br (i < 0) (m_ret (-7 : Int32)) (m_br (k < 0) (m_ret (-7 : Int32)) (m_br (n < 0) (m_ret (-7 : Int32)) (m_ai 168 (nI j) fun x83 => m_br (0 < (lg_cmp (i.toInt64 + n.toInt64) x83.toInt64)) (m_ret (-7 : Int32)) (m_ai 168 (nI l) fun x101 => m_br ((lg_cmp (k.toInt64 + n.toInt64) x101.toInt64) ≤ 0) (fnX12_paste_L113 4096 146 (nI j) i (nI l) k n (0 : Int32)) (m_ret (-7 : Int32))))))) (m_ret (-8 : Int32))))) μ (fun r' μ2 => r' = r ∧ (∀ a, (a < 96 ∨ 104 ≤ a) → a ≠ 168 → a ≠ 169 → μ2.1 a = μ.1 a) ∧ SL μ2) := by
    intro r hr h3
    rw [back μ rfl]
    by_cases c0 : wd = vd
    · rw [if_pos c0] at hr ⊢
      by_cases c1 : ¬ i < 0 ∧ ¬ k < 0 ∧ ¬ n < 0 ∧ i.toInt + n.toInt ≤ N ∧ k.toInt + n.toInt ≤ M
      · rw [if_pos c1] at hr
        exact absurd hr.symm h3
      · rw [if_neg c1] at hr ⊢
        exact ⟨hr, fun _ _ _ _ => rfl, hSl⟩
    · rw [if_neg c0] at hr ⊢
      exact ⟨hr, fun _ _ _ _ => rfl, hSl⟩
  by_cases c0 : wd = vd
  · rw [t_brT (by rw [x4, y4, c0])]
    simp (disch := (first | assumption | omega)) only [t_ap, s1, u1']
    rw [t_bnd, t_eq (has_eq q1 q6 i n)]
    by_cases c1 : ¬ i < 0 ∧ ¬ n < 0 ∧ i.toInt + n.toInt ≤ N
    · rw [t_brF (by rw [decide_eq_true c1]; decide)]
      simp (disch := (first | assumption | omega)) only [t_ap, u1']
      rw [t_bnd, t_eq (has_eq p1 p6 k n)]
      by_cases c2 : ¬ k < 0 ∧ ¬ n < 0 ∧ k.toInt + n.toInt ≤ M
      · rw [t_brF (by rw [decide_eq_true c2]; decide)]
        simp (disch := (first | assumption | omega)) only [t_ap, s1, u1', s2, u2']
        obtain ⟨i', h1, rfl⟩ := nI_of c1.1
        obtain ⟨k', h2, rfl⟩ := nI_of c2.1
        obtain ⟨n', h3, rfl⟩ := nI_of c1.2.1
        rw [nI_toInt h1, nI_toInt h3] at c1
        rw [nI_toInt h2, nI_toInt h3] at c2
        have hc : T (m_cpl (97 + 2 * j) (nI i') (97 + 2 * l) (nI k') (nI n') (m_ret (0 : Int32))) μ (fun r μ1 => r = 0 ∧ μ1 = (μ.1, u1 μ.2.1 (97 + 2 * l) (va_cpy (μ.2.1 (97 + 2 * j)) (μ.2.1 (97 + 2 * l)) i' k' n'), μ.2.2)) := by
          unfold T m_cpl
          rw [if_pos ⟨c1.1, c2.1, c1.2.1, by rw [nI_clamp h1, nI_clamp h3, s3]; omega, by rw [nI_clamp h2, nI_clamp h3, u3]; omega⟩, nI_clamp h1, nI_clamp h2, nI_clamp h3]
          exact ⟨_, _, rfl, rfl, rfl⟩
        refine t_mono hc ?_
        rintro r μ1 ⟨rfl, rfl⟩
        refine (back _ (by rfl) _).mpr ?_
        rw [if_pos c0, if_pos ⟨c1.1, c2.1, c1.2.1, by rw [nI_toInt h1, nI_toInt h3]; exact c1.2.2, by rw [nI_toInt h2, nI_toInt h3]; exact c2.2.2⟩]
        obtain ⟨L, f1, f2, f3⟩ := paste_eq (s := j) (i := i') (j := l) (k := k') (n := n') (by omega) (by omega) (by omega) (by omega) (μ.1, u1 μ.2.1 (97 + 2 * l) (va_cpy (μ.2.1 (97 + 2 * j)) (μ.2.1 (97 + 2 * l)) i' k' n'), μ.2.2)
        rw [t_eq f1]
        refine ⟨rfl, fun _ _ _ _ => rfl, ?_⟩
        simp only [u1_ne (show 170 ≠ 97 + 2 * l by omega)] at f2
        simp only at f3
        intro z hz
        by_cases e : z = l
        · subst e
          refine Or.inr ⟨M, vd, p1, p2, p3, p4, p5, p6, p7, ?_⟩
          intro y hy
          show L (97 + 2 * z) y = L 170 (60 * z + y)
          rw [f3 _ (by omega) (by omega), u1_at, f2]
          unfold va_cpy
          by_cases hq : k' ≤ y ∧ y < k' + n'
          · rw [if_pos hq, if_pos (by omega), q8 _ (by omega), show 60 * j + (i' + (y - k')) = 60 * j + i' + (60 * z + y - (60 * z + k')) by omega]
          · rw [if_neg hq, if_neg (by omega), p8 _ hy]
        · refine sl_other hz (j := l) (by omega) e (hSl z hz) (fun _ _ _ _ => rfl) rfl rfl ?_ ?_
          · intro a g1 g2 g3
            show L a = _
            rw [f3 a (by omega) (by omega), u1_ne g1]
          · intro y hy
            show L 170 y = _
            rw [f2, if_neg (by omega)]
      · rw [t_brT (by rw [decide_eq_false c2]; decide), t_ret]
        exact quit (-7) (by rw [if_pos c0, if_neg (fun z => c2 ⟨z.2.1, z.2.2.1, z.2.2.2.2⟩)]) (by decide)
    · rw [t_brT (by rw [decide_eq_false c1]; decide), t_ret]
      exact quit (-7) (by rw [if_pos c0, if_neg (fun z => c1 ⟨z.1, z.2.2.1, z.2.2.2.1⟩)]) (by decide)
  · rw [t_brF (by rw [x4, y4, nI_eq (by omega) (by omega)]; exact c0), t_ret]
    exact quit (-8) (by rw [if_neg c0]) (by decide)
