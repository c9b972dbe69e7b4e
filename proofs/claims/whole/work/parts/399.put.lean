/-! ===== ONE STONE PUT ===== -/
def arW (w : Nat → Nat) (x y r s : Nat) : Bool := decide (dd (sx w s) x * dd (sx w s) x + dd (sy w s) y * dd (sy w s) y ≤ r * r)
theorem around_L {w : Nat → Nat} {μ : sm_Mem} (hR : RH 14 w μ) (hG : Good w) {x y r : Nat} (hx : x ≤ 20) (hy : y ≤ 12) (hr : r ≤ 9) (h7 : μ.1 76 7 = nI r) : ∀ f s, w 3 - s < f → s ≤ w 3 → fnX2_around_L6 f 76 14 (nI x) (nI y) (mk (arW w x y r) s) (nI s) μ = some (mk (arW w x y r) (w 3), μ) := by
  have n := hG.1
  have gw := good_wide hG
  have r4 := hR.1.2.2.2.2.1
  have e_15 : ln 15 = 24 := rfl
  have e_16 : ln 16 = 24 := rfl
  have rr : r * r ≤ 9 * 9 := Nat.mul_le_mul hr hr
  intro f
  induction f with
  | zero =>
    intro s h
    omega
  | succ f ih =>
    intro s hf hs
    unfold fnX2_around_L6 fnX2_around_J69
    rw [e_gi, r4]
    by_cases c1 : w 3 ≤ s
    · have : s = w 3 := by omega
      subst this
      rw [e_T (nI_le c1 (by omega))]
      rfl
    · have g := hG.2.2.2.1 s (by omega)
      have x1 : μ.1 15 s = nI (sx w s) := (hR.2.2.2.1 s (by omega)).1
      have y1 : μ.1 16 s = nI (sy w s) := (hR.2.2.2.1 s (by omega)).2.1
      have gx : sx w s ≤ 20 := by unfold sx; omega
      have gy : sy w s ≤ 12 := by unfold sy; omega
      have d1 := dd_le (a := sx w s) (b := x) (m := 20) gx hx
      have d2 := dd_le (a := sy w s) (b := y) (m := 12) gy hy
      have ih' := ih (s + 1) (by omega) (by omega)
      rw [mk_succ] at ih'
      rw [e_F (nI_ge (by omega) (by omega)), lk_14_8, lk_14_9, e_ai (by omega), x1, e_nm', e_ai (by omega), y1, e_nm', e_gi, e_gi, h7, pk_mul, sub_sq (by omega) (by omega), sub_sq (by omega) (by omega), nI_add, nI_1]
      unfold arW at ih' ⊢
      by_cases c2 : r * r < dd (sx w s) x * dd (sx w s) x + dd (sy w s) y * dd (sy w s) y
      · rw [if_neg (by rw [decide_eq_true_eq]; omega)] at ih'
        rw [e_T (nI_lt c2 (by omega))]
        exact ih'
      · rw [if_pos (by rw [decide_eq_true_eq]; omega)] at ih'
        rw [e_F (nI_nlt (by omega) (by omega)), e_nm']
        exact ih'
theorem around_eq {w : Nat → Nat} {μ : sm_Mem} (hR : RH 14 w μ) (hG : Good w) {x y r : Nat} (hx : x ≤ 20) (hy : y ≤ 12) (hr : r ≤ 9) (h7 : μ.1 76 7 = nI r) : fnX2_around 76 14 (nI x) (nI y) μ = some (mk (arW w x y r) (w 3), μ) := by
  have n := hG.1
  unfold fnX2_around
  exact around_L hR hG hx hy hr h7 4096 0 (by omega) (by omega)
theorem put42 {v4 : Int32} {p : Nat} (hp : p < 25) {m : Int32} (hm : ∀ i, 25 ≤ i → i < 32 → bt m i = false) {Q : Unit → sm_Mem → Prop} {μ0 : sm_Mem} (ex : ∀ μ', (∀ k, k < 25 → ∀ t, t < 32 → bt (μ'.1 78 k) t = (bt (μ0.1 78 k) t || (bt m k && decide (t = p)))) → (∀ a, a ≠ 78 → μ'.1 a = μ0.1 a) → μ'.2 = μ0.2 → T (fnX2_put_J78 76 14 (nI p) v4) μ' Q) :
    ∀ (f j : Nat) (rst : Int32) (μ : sm_Mem), 32 - j < f → j ≤ 32 → Rest m j rst → (∀ k, k < 25 → ∀ t, t < 32 → bt (μ.1 78 k) t = (bt (μ0.1 78 k) t || ((bt m k && decide (k < j)) && decide (t = p)))) → (∀ a, a ≠ 78 → μ.1 a = μ0.1 a) → μ.2 = μ0.2 → T (fnX2_put_L42 f 76 14 (nI p) v4 rst) μ Q := by
  have e_78 : ln 78 = 25 := rfl
  intro f
  induction f with
  | zero =>
    intro j rst μ h
    omega
  | succ f ih =>
    intro j rst μ hf hj hr hk ho h2
    unfold fnX2_put_L42
    by_cases c0 : rst = 0
    · rw [t_brT c0]
      refine ex μ ?_ ho h2
      intro k hk' t ht
      rw [hk k hk' t ht]
      congr 2
      by_cases c : k < j
      · rw [decide_eq_true c, Bool.and_true]
      · rw [rest_end hr c0 (show k < 32 by omega) (by omega)]
        rfl
    · obtain ⟨s, s1, s2, s3, s4, s5, s6⟩ := rest_next hr c0
      have s25 : s < 25 := by
        refine Classical.byContradiction (fun hn => ?_)
        rw [hm s (by omega) s1] at s3
        cases s3
      rw [t_brF c0, t_bnd, t_eq (s5 μ), lk_76_1, lk_77_5, t_ai (by omega), t_sai (by omega), t_nm]
      refine ih (s + 1) _ _ (by omega) (by omega) s6 ?_ ?_ h2
      · intro k hk' t ht
        by_cases e : k = s
        · subst e
          rw [show (u2 μ.1 78 k (μ.1 78 k ||| ((1 : Int32) <<< (nI p &&& 31))), μ.2).1 78 k = μ.1 78 k ||| ((1 : Int32) <<< (nI p &&& 31)) from (by simp (disch := omega) only [u2_ne, u2_a, u2_k, u2_at]), b_or, k_1 p (by omega) t ht, hk k hk' t ht, decide_eq_false (show ¬ k < j by omega), s3, decide_eq_true (show k < k + 1 by omega)]
          simp
        · rw [show (u2 μ.1 78 s (μ.1 78 s ||| ((1 : Int32) <<< (nI p &&& 31))), μ.2).1 78 k = μ.1 78 k from (by simp (disch := omega) only [u2_ne, u2_a, u2_k, u2_at]), hk k hk' t ht]
          congr 2
          by_cases c : k < j
          · rw [decide_eq_true c, decide_eq_true (show k < s + 1 by omega)]
          · by_cases c4 : k < s
            · rw [s4 k (by omega) c4]
              rfl
            · rw [decide_eq_false c, decide_eq_false (show ¬ k < s + 1 by omega)]
      · intro a ha
        rw [← ho a ha]
        simp (disch := omega) only [u2_ne, u2_a, u2_k, u2_at]
/-- the stones but one, and one put -/
def prP (w : Nat → Nat) (p s : Nat) : Bool := decide (s < w 3 ∨ s = p)
def prM (w : Nat → Nat) (p s : Nat) : Bool := decide (s < w 3 ∧ s ≠ p)
theorem put_T {w : Nat → Nat} (hG : Good w) {x y r p bv : Nat} (hx : x ≤ 20) (hy : y ≤ 12) (hyw : y ≤ w 1) (hr : r ≤ 9) (hp : p < 25) {b g : Nat → Nat} {h : Nat → Nat → Nat} {μ : sm_Mem} (hR : RH 14 w μ) (h7 : μ.1 76 7 = nI r) (N : NtH 77 (zNear (prM w p) (sy w) r) (zFar (prM w p) (w 1) (sy w) r) (zAdj (prM w p) (sx w) (sy w) r) (zB (prM w p) b) g h μ) :
    T (fnX2_put 76 14 (nI p) (nI x) (nI y) (nI bv)) μ (fun _ μ' => NtH 77 (zNear (prP w p) (up (sy w) p y) r) (zFar (prP w p) (w 1) (up (sy w) p y) r) (zAdj (prP w p) (up (sx w) p x) (up (sy w) p y) r) (zB (prP w p) (up b p bv)) g h μ' ∧ FrZ μ μ') := by
  have n := hG.1
  have gw := good_wide hG
  have e_78 : ln 78 = 25 := rfl
  have e_79 : ln 79 = 25 := rfl
  have hm : ∀ t, t < 32 → bt (mk (arW w x y r) (w 3) &&& (((1 : Int32) <<< (nI p &&& 31)) ^^^ (-1 : Int32))) t = (decide (t < w 3 ∧ t ≠ p) && arW w x y r t) := by
    intro t ht
    rw [b_and, k_not _ ht, k_1 p (by omega) t ht, bt_mk _ _ (by omega) t ht]
    by_cases c1 : t < w 3
    · by_cases c2 : t = p
      · simp [c2]
      · simp [c1, c2]
    · simp [c1]
  unfold fnX2_put
  rw [t_bnd, t_eq (around_eq hR hG hx hy hr h7), t_nm, lk_76_1, lk_77_5, lk_77_6, t_sai (by omega), t_sai (by omega)]
  generalize mk (arW w x y r) (w 3) &&& (((1 : Int32) <<< (nI p &&& 31)) ^^^ (-1 : Int32)) = M at hm ⊢
  refine put42 hp (m := M) (fun i h1 h2 => by rw [hm i h2, decide_eq_false (by omega)]; rfl) (μ0 := (u2 (u2 μ.1 78 p M) 79 p (nI bv), μ.2)) ?_ 4096 0 M _ (by omega) (by omega) (rest_0 M) (fun k hk t ht => by rw [decide_eq_false (show ¬ k < 0 by omega)]; simp) (fun _ _ => rfl) rfl
  intro μ1 k1 o1 h21
  have x1 : μ1.1 76 7 = nI r := by
    rw [o1 76 (by omega), ← h7]
    simp (disch := omega) only [u2_ne, u2_a, u2_k, u2_at]
  have w1 : μ1.1 14 1 = nI (w 1) := by
    rw [o1 14 (by omega), ← hR.1.2.1]
    simp (disch := omega) only [u2_ne, u2_a, u2_k, u2_at]
  have c77 : μ1.1 77 = μ.1 77 := by
    rw [o1 77 (by omega)]
    simp (disch := omega) only [u2_ne, u2_a, u2_k, u2_at]
  have oo : ∀ a, a ≠ 78 → a ≠ 79 → μ1.1 a = μ.1 a := by
    intro a q1 q2
    rw [o1 a q1]
    simp (disch := omega) only [u2_ne, u2_a, u2_k, u2_at]
  -- the masks of the banks come last
  have fin : ∀ (A B : Int32), (∀ s, s < 32 → bt A s = (decide (s < 25) && zNear (prP w p) (up (sy w) p y) r s)) → (∀ s, s < 32 → bt B s = (decide (s < 25) && zFar (prP w p) (w 1) (up (sy w) p y) r s)) → ∀ μ2 : sm_Mem, μ2.1 77 0 = A → μ2.1 77 1 = B → (∀ k, 2 ≤ k → μ2.1 77 k = μ1.1 77 k) → (∀ a, a ≠ 77 → μ2.1 a = μ1.1 a) → μ2.2 = μ1.2 → NtH 77 (zNear (prP w p) (up (sy w) p y) r) (zFar (prP w p) (w 1) (up (sy w) p y) r) (zAdj (prP w p) (up (sx w) p x) (up (sy w) p y) r) (zB (prP w p) (up b p bv)) g h μ2 ∧ FrZ μ μ2 := by
    intro A B hA hB μ2 q0 q1 q2 q3 q4
    refine ⟨⟨fun s hs => ⟨by rw [q0]; exact hA s hs, by rw [q1]; exact hB s hs⟩, ?_⟩, fun a ha => by rw [q3 a (by omega), oo a (by omega) (by omega)], fun k hk => by rw [q2 k hk, c77], by rw [q4, h21]⟩
    intro s hs
    obtain ⟨N1, N2, N3, N4, N5⟩ := N.2 s hs
    refine ⟨?_, ?_, ?_, ?_, ?_⟩
    · intro t ht
      rw [show μ2.1 (77 + 1) = _ from q3 78 (by omega), k1 s hs t ht]
      by_cases c : s = p
      · subst c
        rw [show (u2 (u2 μ.1 78 s M) 79 s (nI bv), μ.2).1 78 s = M from (by simp (disch := omega) only [u2_ne, u2_a, u2_k, u2_at]), hm t ht, hm s (by omega)]
        unfold zAdj prP gAdj gSq
        rw [decide_eq_true (show s < w 3 ∨ s = s from Or.inr rfl), decide_eq_false (show ¬ (s < w 3 ∧ s ≠ s) from fun z => z.2 rfl), up_at, up_at]
        by_cases ct : t = s
        · subst ct
          simp
        · rw [up_ne ct, up_ne ct]
          unfold arW
          by_cases ct3 : t < w 3
          · rw [decide_eq_true (show t < w 3 ∧ t ≠ s from ⟨ct3, ct⟩), decide_eq_true (show t < w 3 ∨ t = s from Or.inl ct3), decide_eq_true (show t < 25 by omega), dd_comm x, dd_comm y]
            simp [ct, Ne.symm ct]
          · rw [decide_eq_false (show ¬ (t < w 3 ∧ t ≠ s) from fun z => ct3 z.1), decide_eq_false (show ¬ (t < w 3 ∨ t = s) by omega)]
            simp
      · rw [show (u2 (u2 μ.1 78 p M) 79 p (nI bv), μ.2).1 78 s = μ.1 78 s from (by simp (disch := omega) only [u2_ne, u2_a, u2_k, u2_at]), hm s (by omega)]
        have N1' : bt (μ.1 78 s) t = (decide (t < 25) && zAdj (prM w p) (sx w) (sy w) r s t) := N1 t ht
        rw [N1']
        unfold zAdj prP prM gAdj gSq
        rw [up_ne c, up_ne c]
        by_cases cs : s < w 3
        · rw [decide_eq_true (show s < w 3 ∧ s ≠ p from ⟨cs, c⟩), decide_eq_true (show s < w 3 ∨ s = p from Or.inl cs)]
          by_cases ct : t = p
          · subst ct
            rw [up_at, up_at, decide_eq_false (show ¬ (t < w 3 ∧ t ≠ t) from fun z => z.2 rfl), decide_eq_true (show t < w 3 ∨ t = t from Or.inr rfl), decide_eq_true (show t < 25 from hp)]
            unfold arW
            simp [c]
          · rw [up_ne ct, up_ne ct]
            by_cases ct3 : t < w 3
            · rw [decide_eq_true (show t < w 3 ∧ t ≠ p from ⟨ct3, ct⟩), decide_eq_true (show t < w 3 ∨ t = p from Or.inl ct3), decide_eq_false (show ¬ t = p from ct)]
              simp
            · rw [decide_eq_false (show ¬ (t < w 3 ∧ t ≠ p) from fun z => ct3 z.1), decide_eq_false (show ¬ (t < w 3 ∨ t = p) by omega), decide_eq_false (show ¬ t = p from ct)]
              simp
        · rw [decide_eq_false (show ¬ (s < w 3 ∧ s ≠ p) from fun z => cs z.1), decide_eq_false (show ¬ (s < w 3 ∨ s = p) by omega)]
          simp
    · rw [show μ2.1 (77 + 2) = _ from q3 79 (by omega), o1 79 (by omega)]
      unfold zB prP
      by_cases c : s = p
      · subst c
        rw [decide_eq_true (show s < w 3 ∨ s = s from Or.inr rfl), if_pos rfl, up_at]
        simp (disch := omega) only [u2_ne, u2_a, u2_k, u2_at]
      · have N2' : μ.1 79 s = nI (zB (prM w p) b s) := N2
        rw [show (u2 (u2 μ.1 78 p M) 79 p (nI bv), μ.2).1 79 s = μ.1 79 s from (by simp (disch := omega) only [u2_ne, u2_a, u2_k, u2_at]), N2', up_ne c]
        unfold zB prM
        congr 1
        by_cases cs : s < w 3
        · rw [decide_eq_true (show s < w 3 ∧ s ≠ p from ⟨cs, c⟩), decide_eq_true (show s < w 3 ∨ s = p from Or.inl cs)]
        · rw [decide_eq_false (show ¬ (s < w 3 ∧ s ≠ p) from fun z => cs z.1), decide_eq_false (show ¬ (s < w 3 ∨ s = p) by omega)]
    · rw [show μ2.1 (77 + 3) = _ from q3 80 (by omega), oo 80 (by omega) (by omega)]
      exact N3
    · rw [show μ2.1 (77 + 4) = _ from q3 81 (by omega), oo 81 (by omega) (by omega)]
      exact N4
    · rw [show μ2.1 (77 + 5) = _ from q3 82 (by omega), oo 82 (by omega) (by omega)]
      exact N5
  have near0 : ∀ s, s < 32 → bt (μ.1 77 0) s = (decide (s < 25) && zNear (prM w p) (sy w) r s) := fun s hs => (N.1 s hs).1
  have far0 : ∀ s, s < 32 → bt (μ.1 77 1) s = (decide (s < 25) && zFar (prM w p) (w 1) (sy w) r s) := fun s hs => (N.1 s hs).2
  -- with the spot or without
  have nearS : ∀ s, s < 32 → (decide (s < 25) && zNear (prP w p) (up (sy w) p y) r s) = ((decide (s < 25) && zNear (prM w p) (sy w) r s) || (decide (s = p) && decide (y ≤ r))) := by
    intro s hs
    unfold zNear prP prM gNear
    by_cases c : s = p
    · subst c
      rw [up_at, decide_eq_true (show s < w 3 ∨ s = s from Or.inr rfl), decide_eq_false (show ¬ (s < w 3 ∧ s ≠ s) from fun z => z.2 rfl), decide_eq_true (show s < 25 from hp)]
      simp
    · rw [up_ne c, decide_eq_false c]
      by_cases cs : s < w 3
      · rw [decide_eq_true (show s < w 3 ∧ s ≠ p from ⟨cs, c⟩), decide_eq_true (show s < w 3 ∨ s = p from Or.inl cs)]
        simp
      · rw [decide_eq_false (show ¬ (s < w 3 ∧ s ≠ p) from fun z => cs z.1), decide_eq_false (show ¬ (s < w 3 ∨ s = p) by omega)]
        simp
  have farS : ∀ s, s < 32 → (decide (s < 25) && zFar (prP w p) (w 1) (up (sy w) p y) r s) = ((decide (s < 25) && zFar (prM w p) (w 1) (sy w) r s) || (decide (s = p) && decide (w 1 - y ≤ r))) := by
    intro s hs
    unfold zFar prP prM gFar
    by_cases c : s = p
    · subst c
      rw [up_at, decide_eq_true (show s < w 3 ∨ s = s from Or.inr rfl), decide_eq_false (show ¬ (s < w 3 ∧ s ≠ s) from fun z => z.2 rfl), decide_eq_true (show s < 25 from hp)]
      simp
    · rw [up_ne c, decide_eq_false c]
      by_cases cs : s < w 3
      · rw [decide_eq_true (show s < w 3 ∧ s ≠ p from ⟨cs, c⟩), decide_eq_true (show s < w 3 ∨ s = p from Or.inl cs)]
        simp
      · rw [decide_eq_false (show ¬ (s < w 3 ∧ s ≠ p) from fun z => cs z.1), decide_eq_false (show ¬ (s < w 3 ∨ s = p) by omega)]
        simp
  have J102 : ∀ (A : Int32) (μ2 : sm_Mem), (∀ s, s < 32 → bt A s = (decide (s < 25) && zNear (prP w p) (up (sy w) p y) r s)) → μ2.1 77 0 = A → (∀ k, 1 ≤ k → μ2.1 77 k = μ1.1 77 k) → (∀ a, a ≠ 77 → μ2.1 a = μ1.1 a) → μ2.2 = μ1.2 → T (fnX2_put_J102 76 14 (nI p) (nI y)) μ2 (fun _ μ' => NtH 77 (zNear (prP w p) (up (sy w) p y) r) (zFar (prP w p) (w 1) (up (sy w) p y) r) (zAdj (prP w p) (up (sx w) p x) (up (sy w) p y) r) (zB (prP w p) (up b p bv)) g h μ' ∧ FrZ μ μ') := by
    intro A μ2 hA q0 q1 q3 q4
    have m77 : μ2.1 77 1 = μ.1 77 1 := by rw [q1 1 (by omega), c77]
    unfold fnX2_put_J102
    rw [t_gi, t_gi, show μ2.1 14 1 = nI (w 1) from by rw [q3 14 (by omega)]; exact w1, show μ2.1 76 7 = nI r from by rw [q3 76 (by omega)]; exact x1, pk_sub hyw]
    by_cases c : r < w 1 - y
    · rw [t_brT (nI_lt c (by omega)), t_ret]
      refine fin A (μ.1 77 1) hA ?_ μ2 q0 m77 (fun k hk => q1 k (by omega)) q3 q4
      intro s hs
      rw [far0 s hs, farS s hs, decide_eq_false (show ¬ w 1 - y ≤ r by omega), Bool.and_false, Bool.or_false]
    · rw [t_brF (nI_nlt (by omega) (by omega)), lk_76_1, t_gi, m77, t_si, t_ret]
      refine fin A (μ.1 77 1 ||| ((1 : Int32) <<< (nI p &&& 31))) hA ?_ _ (by rw [← q0]; simp (disch := omega) only [u2_ne, u2_a, u2_k, u2_at]) (by simp (disch := omega) only [u2_ne, u2_a, u2_k, u2_at]) (fun k hk => by rw [← q1 k (by omega)]; simp (disch := omega) only [u2_ne, u2_a, u2_k, u2_at]) (fun a ha => by rw [← q3 a ha]; simp (disch := omega) only [u2_ne, u2_a, u2_k, u2_at]) q4
      intro s hs
      rw [b_or, k_1 p (by omega) s hs, far0 s hs, farS s hs, decide_eq_true (show w 1 - y ≤ r by omega), Bool.and_true]
  have m0 : μ1.1 77 0 = μ.1 77 0 := by rw [c77]
  unfold fnX2_put_J78
  rw [t_gi, x1]
  by_cases c : r < y
  · rw [t_brT (nI_lt c (by omega))]
    refine J102 (μ.1 77 0) μ1 ?_ m0 (fun _ _ => rfl) (fun _ _ => rfl) rfl
    intro s hs
    rw [near0 s hs, nearS s hs, decide_eq_false (show ¬ y ≤ r by omega), Bool.and_false, Bool.or_false]
  · rw [t_brF (nI_nlt (by omega) (by omega)), lk_76_1, t_gi, m0, t_si]
    refine J102 (μ.1 77 0 ||| ((1 : Int32) <<< (nI p &&& 31))) _ ?_ (by simp (disch := omega) only [u2_ne, u2_a, u2_k, u2_at]) (fun k hk => (by simp (disch := omega) only [u2_ne, u2_a, u2_k, u2_at])) (fun a ha => (by simp (disch := omega) only [u2_ne, u2_a, u2_k, u2_at])) rfl
    intro s hs
    rw [b_or, k_1 p (by omega) s hs, near0 s hs, nearS s hs, decide_eq_true (show y ≤ r by omega), Bool.and_true]
