/-! ===== CHANCES (no machine in it) ===== -/
def prd (f : Nat → Nat) : Nat → Nat
  | 0 => 1
  | n + 1 => prd f n * f n
theorem prd_cong {f g : Nat → Nat} : ∀ {n : Nat}, (∀ k, k < n → f k = g k) → prd f n = prd g n
  | 0, _ => rfl
  | n + 1, h => by
    show prd f n * f n = prd g n * g n
    rw [prd_cong (fun k hk => h k (by omega)), h n (by omega)]
theorem prd_le {f g : Nat → Nat} : ∀ {n : Nat}, (∀ k, k < n → f k ≤ g k) → prd f n ≤ prd g n
  | 0, _ => Nat.le_refl _
  | n + 1, h => Nat.mul_le_mul (prd_le (fun k hk => h k (by omega))) (h n (by omega))
theorem prd_pos {f : Nat → Nat} : ∀ {n : Nat}, (∀ k, k < n → 1 ≤ f k) → 1 ≤ prd f n
  | 0, _ => Nat.le_refl _
  | n + 1, h => Nat.mul_pos (prd_pos (fun k hk => h k (by omega))) (h n (by omega))
theorem prd_upd (f : Nat → Nat) (v : Nat) {i : Nat} : ∀ {n : Nat}, i < n → prd (fun k => if k = i then v else f k) n * f i = prd f n * v
  | 0, h => by omega
  | n + 1, h => by
    show prd (fun k => if k = i then v else f k) n * (if n = i then v else f n) * f i = prd f n * f n * v
    by_cases c : n = i
    · rw [if_pos c, prd_cong (g := f) (fun k hk => if_neg (by omega)), ← c, Nat.mul_assoc, Nat.mul_assoc, Nat.mul_comm v]
    · rw [if_neg c, Nat.mul_right_comm, prd_upd f v (by omega), Nat.mul_right_comm]
section
variable {n : Nat} {rk : Nat → Bool} {N : Nat → Nat}
def fac (rk : Nat → Bool) (N : Nat → Nat) (D : Nat → Bool) (s : Nat) : Nat := if rk s = true then (if D s = true then 100 - N s else 100) else 1
def HD (n : Nat) (rk : Nat → Bool) (N : Nat → Nat) (D : Nat → Bool) : Nat := 10 * 100 ^ (4 - fb_ct rk n) * prd (fac rk N D) n
def onv (rk : Nat → Bool) (N : Nat → Nat) (s v : Nat) : Nat := if rk s = true then v * (100 - N s) / 100 else v
def adD (D : Nat → Bool) (s : Nat) : Nat → Bool := fun x => D x || decide (x = s)
theorem hd_0 (hk : fb_ct rk n ≤ 4) : HD n rk N (fun _ => false) = 1000000000 := by
  have e : ∀ m, prd (fac rk N (fun _ => false)) m = 100 ^ fb_ct rk m := by
    intro m
    induction m with
    | zero => rfl
    | succ m ih =>
      show prd _ m * fac rk N (fun _ => false) m = _
      rw [ih, fb_ct_succ]
      unfold fac
      cases rk m
      · simp
      · simp [Nat.pow_succ]
  unfold HD
  rw [e n]
  have cs : fb_ct rk n = 0 ∨ fb_ct rk n = 1 ∨ fb_ct rk n = 2 ∨ fb_ct rk n = 3 ∨ fb_ct rk n = 4 := by omega
  rcases cs with q | q | q | q | q <;> rw [q] <;> rfl
theorem hd_add {D : Nat → Bool} {s : Nat} (hs : s < n) (hr : rk s = true) (hD : D s = false) : HD n rk N (adD D s) * 100 = HD n rk N D * (100 - N s) := by
  have e : prd (fac rk N (adD D s)) n = prd (fun k => if k = s then 100 - N s else fac rk N D k) n := by
    apply prd_cong
    intro k _
    unfold fac adD
    by_cases c : k = s
    · rw [if_pos c, c, hr, hD]
      simp
    · rw [if_neg c]
      simp [c]
  have u := prd_upd (fac rk N D) (100 - N s) hs
  have f100 : fac rk N D s = 100 := by
    unfold fac
    rw [hr, hD]
    rfl
  rw [f100] at u
  unfold HD
  rw [e, Nat.mul_assoc, u, ← Nat.mul_assoc]
theorem on_hd {D : Nat → Bool} {s : Nat} (hs : s < n) (hr : rk s = true) (hD : D s = false) : onv rk N s (HD n rk N D) = HD n rk N (adD D s) := by
  unfold onv
  rw [if_pos hr, ← hd_add hs hr hD, Nat.mul_div_cancel _ (by omega)]
theorem on_mono {s v v' : Nat} (h : v ≤ v') : onv rk N s v ≤ onv rk N s v' := by
  unfold onv
  split
  · exact Nat.div_le_div_right (Nat.mul_le_mul_right _ h)
  · exact h
theorem on_le {s v : Nat} : onv rk N s v ≤ v := by
  unfold onv
  split
  · refine Nat.div_le_of_le_mul ?_
    rw [Nat.mul_comm]
    exact Nat.mul_le_mul_right _ (by omega)
  · exact Nat.le_refl _
theorem hd_anti {D D' : Nat → Bool} (h : ∀ s, s < n → rk s = true → D s = true → D' s = true) : HD n rk N D' ≤ HD n rk N D := by
  unfold HD
  apply Nat.mul_le_mul_left
  apply prd_le
  intro k hk
  unfold fac
  cases hr : rk k
  · exact Nat.le_refl _
  · simp only [if_true]
    cases hD : D k
    · cases D' k
      · exact Nat.le_refl _
      · simp only [if_true, Bool.false_eq_true, if_false]
        omega
    · rw [h k hk hr hD]
      exact Nat.le_refl _
theorem hd_cong {D D' : Nat → Bool} (h : ∀ s, s < n → rk s = true → D s = D' s) : HD n rk N D = HD n rk N D' := by
  have a := hd_anti (n := n) (rk := rk) (N := N) (D := D) (D' := D') (fun s hs hr hD => by rw [← h s hs hr]; exact hD)
  have b := hd_anti (n := n) (rk := rk) (N := N) (D := D') (D' := D) (fun s hs hr hD => by rw [h s hs hr]; exact hD)
  omega
theorem hd_pos (hN : ∀ s, s < n → N s ≤ 99) (D : Nat → Bool) : 1 ≤ HD n rk N D := by
  unfold HD
  have h1 : 1 ≤ prd (fac rk N D) n := by
    apply prd_pos
    intro k hk
    have := hN k hk
    unfold fac
    split
    · split <;> omega
    · omega
  have h2 : 1 ≤ 10 * 100 ^ (4 - fb_ct rk n) := Nat.mul_pos (by omega) (Nat.pos_of_ne_zero (by simp))
  exact Nat.mul_pos h2 h1
theorem hd_le (hk : fb_ct rk n ≤ 4) (D : Nat → Bool) : HD n rk N D ≤ 1000000000 := by
  rw [← hd_0 (n := n) (rk := rk) (N := N) hk]
  exact hd_anti (fun s _ _ h => by cases h)
end
/-! sets of doubtful stones by masks of four bits -/
def dOf (rk : Nat → Bool) (d s : Nat) : Bool := rk s && d.testBit (fb_ct rk s)
theorem four (p : Nat → Bool) : ∃ d, d < 16 ∧ ∀ i, i < 4 → d.testBit i = p i := by
  have key : ∀ b0 b1 b2 b3 : Bool, ∃ d, d < 16 ∧ Nat.testBit d 0 = b0 ∧ Nat.testBit d 1 = b1 ∧ Nat.testBit d 2 = b2 ∧ Nat.testBit d 3 = b3 := by decide
  obtain ⟨d, h, h0, h1, h2, h3⟩ := key (p 0) (p 1) (p 2) (p 3)
  refine ⟨d, h, fun i hi => ?_⟩
  have cs : i = 0 ∨ i = 1 ∨ i = 2 ∨ i = 3 := by omega
  rcases cs with rfl | rfl | rfl | rfl
  · exact h0
  · exact h1
  · exact h2
  · exact h3
theorem ct_lt_of {rk : Nat → Bool} {s n : Nat} (hs : s < n) (hr : rk s = true) : fb_ct rk s < fb_ct rk n := by
  have h1 := fb_ct_mono rk (show s + 1 ≤ n by omega)
  rw [fb_ct_succ, if_pos hr] at h1
  omega
theorem mask_ex {n : Nat} {rk : Nat → Bool} (hk : fb_ct rk n ≤ 4) (D : Nat → Bool) : ∃ d, d < 2 ^ fb_ct rk n ∧ ∀ s, s < n → rk s = true → dOf rk d s = D s := by
  obtain ⟨d, -, h⟩ := four (fun i => @decide (∃ s, s < n ∧ rk s = true ∧ fb_ct rk s = i ∧ D s = true) (Classical.propDecidable _))
  refine ⟨d % 2 ^ fb_ct rk n, Nat.mod_lt _ (Nat.pos_of_ne_zero (by simp)), fun s hs hr => ?_⟩
  have lt := ct_lt_of hs hr
  unfold dOf
  rw [hr, Bool.true_and, Nat.testBit_mod_two_pow, decide_eq_true lt, Bool.true_and, h _ (by omega)]
  cases hD : D s
  · refine @decide_eq_false _ (Classical.propDecidable _) ?_
    rintro ⟨t, t1, t2, t3, t4⟩
    have : t = s := fb_ct_kth_one t2 hr t3
    rw [this, hD] at t4
    cases t4
  · exact @decide_eq_true _ (Classical.propDecidable _) ⟨s, hs, hr, rfl, hD⟩
theorem ct_strict {p q : Nat → Bool} {i : Nat} : ∀ {n : Nat}, (∀ k, k < n → p k = true → q k = true) → i < n → p i = false → q i = true → fb_ct p n < fb_ct q n
  | 0, _, h, _, _ => by omega
  | n + 1, hs, hi, hp, hq => by
    rw [fb_ct_succ, fb_ct_succ]
    by_cases c : i = n
    · subst c
      have := fb_ct_sub (p := p) (q := q) (n := i) (fun k hk => hs k (by omega))
      rw [hp, hq]
      simp only [Bool.false_eq_true, if_false, if_true]
      omega
    · have := ct_strict (n := n) (fun k hk => hs k (by omega)) (by omega) hp hq
      have h2 := hs n (by omega)
      cases hpn : p n
      · simp only [Bool.false_eq_true, if_false]
        split <;> omega
      · rw [h2 hpn]
        simp only [if_true]
        omega
/-- how many of the sets' chances are no more -/
def rnk (n : Nat) (rk : Nat → Bool) (N : Nat → Nat) (v : Nat) : Nat := fb_ct (fun d => decide (HD n rk N (dOf rk d) ≤ v)) 16
theorem rnk_lt {n : Nat} {rk : Nat → Bool} {N : Nat → Nat} (hk : fb_ct rk n ≤ 4) {v : Nat} {D : Nat → Bool} (h : v < HD n rk N D) : rnk n rk N v < rnk n rk N (HD n rk N D) := by
  obtain ⟨d, d1, d2⟩ := mask_ex hk D
  have e : HD n rk N (dOf rk d) = HD n rk N D := hd_cong d2
  have d16 : d < 16 := by
    have : 2 ^ fb_ct rk n ≤ 2 ^ 4 := Nat.pow_le_pow_right (by omega) hk
    omega
  unfold rnk
  refine ct_strict (i := d) ?_ d16 ?_ ?_
  · intro k _ hk'
    have hk' := of_decide_eq_true hk'
    exact decide_eq_true (by omega)
  · exact decide_eq_false (by omega)
  · exact decide_eq_true (by omega)
/-! over stones -/
def alw (op rk D : Nat → Bool) (s : Nat) : Bool := op s && (!rk s || D s)
def ChI (w : Nat → Nat) (op rk : Nat → Bool) (N : Nat → Nat) (r : Nat) (ch : Nat → Nat) : Prop := ∀ s, s < w 3 → ch s = 0 ∨ ∃ D, ch s = HD (w 3) rk N D ∧ (∀ x, x < w 3 → rk x = true → D x = true → HD (w 3) rk N D ≤ ch x) ∧ rch w (alw op rk D) r s = true
theorem rch_mono {w : Nat → Nat} {op op' : Nat → Bool} {r s : Nat} (h : ∀ x, x < w 3 → op x = true → op' x = true) (H : rch w op r s = true) : rch w op' r s = true := by
  obtain ⟨hs, hR⟩ := rch_t.mp H
  refine hR (fun s => rch w op' r s = true) ?_ ?_
  · intro a ha ho hst
    exact rch_0 ha (h a ha ho) hst
  · intro a b hS ha hb ho hst
    exact rch_s hS hb (h b hb ho) hst
theorem chi_0 {w : Nat → Nat} {op rk : Nat → Bool} {N : Nat → Nat} {r : Nat} (hk : fb_ct rk (w 3) ≤ 4) {ch : Nat → Nat} (h : ∀ s, s < w 3 → ch s = if (op s && stp w 98 s r) = true then onv rk N s 1000000000 else 0) : ChI w op rk N r ch := by
  intro s hs
  rw [h s hs]
  cases hc : (op s && stp w 98 s r)
  · exact Or.inl rfl
  · simp only [Bool.and_eq_true] at hc
    right
    rw [if_pos rfl]
    cases hr : rk s
    · refine ⟨fun _ => false, ?_, fun x _ _ z => (by cases z), rch_0 hs ?_ hc.2⟩
      · rw [hd_0 hk]
        unfold onv
        rw [hr, if_neg (by decide)]
      · unfold alw
        rw [hc.1, hr]
        rfl
    · have e : onv rk N s 1000000000 = HD (w 3) rk N (adD (fun _ => false) s) := by
        rw [← on_hd hs hr rfl, hd_0 hk]
      refine ⟨adD (fun _ => false) s, e, ?_, rch_0 hs ?_ hc.2⟩
      · intro x hx _ hD
        have : x = s := by
          unfold adD at hD
          simpa using hD
        subst this
        rw [h x hx, hc.1, hc.2, if_pos (show (true && true) = true from rfl), e]
        exact Nat.le_refl _
      · unfold alw adD
        rw [hc.1]
        simp
theorem chi_step {w : Nat → Nat} {op rk : Nat → Bool} {N : Nat → Nat} {r : Nat} (hk : fb_ct rk (w 3) ≤ 4) {ch : Nat → Nat} (H : ChI w op rk N r ch) {s q : Nat} (hs : s < w 3) (hq : q < w 3) (ho : op s = true) (hst : stp w q s r = true) (hl : ch s < onv rk N s (ch q)) : ChI w op rk N r (up ch s (onv rk N s (ch q))) ∧ fb_sm (fun x => rnk (w 3) rk N (ch x)) (w 3) < fb_sm (fun x => rnk (w 3) rk N (up ch s (onv rk N s (ch q)) x)) (w 3) ∧ onv rk N s (ch q) ≤ 1000000000 := by
  rcases H q hq with z | ⟨D, e, hD, hrc⟩
  · rw [z] at hl
    have := on_le (rk := rk) (N := N) (s := s) (v := 0)
    omega
  have key : ∃ D', onv rk N s (ch q) = HD (w 3) rk N D' ∧ (∀ x, x < w 3 → rk x = true → D' x = true → x ≠ s → HD (w 3) rk N D' ≤ ch x) ∧ rch w (alw op rk D') r s = true := by
    cases hr : rk s
    · refine ⟨D, ?_, fun x hx hrx hDx _ => hD x hx hrx hDx, rch_s hrc hs ?_ hst⟩
      · unfold onv
        rw [hr, if_neg (by decide)]
        exact e
      · unfold alw
        rw [ho, hr]
        rfl
    · cases hDs : D s
      · refine ⟨adD D s, by rw [e]; exact on_hd hs hr hDs, ?_, ?_⟩
        · intro x hx hrx hDx hne
          have hDx' : D x = true := by
            unfold adD at hDx
            simpa [hne] using hDx
          have a := hD x hx hrx hDx'
          have b : HD (w 3) rk N (adD D s) ≤ HD (w 3) rk N D := hd_anti (fun y _ _ hy => by unfold adD; rw [hy]; rfl)
          omega
        · have hrc' : rch w (alw op rk (adD D s)) r q = true := rch_mono (fun x _ hx => by
            unfold alw adD at *
            simp only [Bool.and_eq_true, Bool.or_eq_true] at *
            exact ⟨hx.1, hx.2.elim Or.inl (fun z => Or.inr (Or.inl z))⟩) hrc
          refine rch_s hrc' hs ?_ hst
          unfold alw adD
          rw [ho]
          simp
      · exfalso
        have a := hD s hs hr hDs
        have b := on_le (rk := rk) (N := N) (s := s) (v := ch q)
        omega
  obtain ⟨D', e', hD', hrc'⟩ := key
  refine ⟨?_, ?_, by rw [e']; exact hd_le hk D'⟩
  · intro x hx
    by_cases c : x = s
    · subst c
      right
      rw [up_at]
      refine ⟨D', e', ?_, hrc'⟩
      intro y hy hry hDy
      by_cases cy : y = x
      · subst cy
        rw [up_at, e']
        exact Nat.le_refl _
      · rw [up_ne cy]
        exact hD' y hy hry hDy cy
    · rw [up_ne c]
      rcases H x hx with z | ⟨Dx, ex, hDx, hrx⟩
      · exact Or.inl z
      · right
        refine ⟨Dx, ex, ?_, hrx⟩
        intro y hy hry hDy
        have := hDx y hy hry hDy
        by_cases cy : y = s
        · subst cy
          rw [up_at]
          omega
        · rw [up_ne cy]
          exact this
  · refine sm_lt (i := s) ?_ hs ?_
    · intro k hk'
      by_cases c : k = s
      · subst c
        rw [up_at, e']
        exact Nat.le_of_lt (rnk_lt hk (by omega))
      · rw [up_ne c]
        exact Nat.le_refl _
    · rw [up_at, e']
      exact rnk_lt hk (by omega)
/-- where nothing can be bettered, each set's chance is there -/
theorem ch_low {w : Nat → Nat} {op rk : Nat → Bool} {N : Nat → Nat} {r : Nat} (hk : fb_ct rk (w 3) ≤ 4) {ch : Nat → Nat} (b1 : ∀ s, s < w 3 → op s = true → stp w 98 s r = true → onv rk N s 1000000000 ≤ ch s) (b2 : ∀ s q, s < w 3 → q < w 3 → op s = true → stp w q s r = true → onv rk N s (ch q) ≤ ch s) :
    ∀ (m : Nat) (D : Nat → Bool), fb_ct (fun s => rk s && D s) (w 3) = m → ∀ s, rch w (alw op rk D) r s = true → HD (w 3) rk N D ≤ ch s := by
  intro m
  induction m with
  | zero =>
    intro D hm s hrc
    obtain ⟨hs, hR⟩ := rch_t.mp hrc
    have none : ∀ x, x < w 3 → alw op rk D x = true → op x = true ∧ rk x = false := by
      intro x hx ha
      unfold alw at ha
      simp only [Bool.and_eq_true, Bool.or_eq_true, Bool.not_eq_true'] at ha
      refine ⟨ha.1, ?_⟩
      rcases ha.2 with z | z
      · exact z
      · have := fb_ct_zero.mp hm x hx
        have this : (rk x && D x) = false := this
        rw [z, Bool.and_true] at this
        exact this
    refine hR (fun s => HD (w 3) rk N D ≤ ch s) ?_ ?_
    · intro a ha ho hst
      obtain ⟨o, q⟩ := none a ha ho
      have := b1 a ha o hst
      unfold onv at this
      rw [q, if_neg (by decide)] at this
      have := hd_le (N := N) hk D
      omega
    · intro a b hS ha hb ho hst
      obtain ⟨o, q⟩ := none b hb ho
      have := b2 b a hb ha o hst
      unfold onv at this
      rw [q, if_neg (by decide)] at this
      have hS : HD (w 3) rk N D ≤ ch a := hS
      show HD (w 3) rk N D ≤ ch b
      omega
  | succ m ih =>
    intro D hm s hrc
    obtain ⟨hs, hR⟩ := rch_t.mp hrc
    -- a doubtful one of the set
    have one : ∀ b, b < w 3 → rk b = true → D b = true → op b = true → rch w (alw op rk D) r b = true → HD (w 3) rk N D ≤ ch b := by
      intro b hb hr hDb ho hrb
      have hm' : fb_ct (fun s => rk s && (D s && decide (s ≠ b))) (w 3) = m := by
        have u := fb_ct_upd (fun s => rk s && D s) false (i := b) (n := w 3) hb
        rw [hr, hDb] at u
        simp only [Bool.and_self, if_true, Bool.false_eq_true, if_false] at u
        have e : fb_ct (fun s => rk s && (D s && decide (s ≠ b))) (w 3) = fb_ct (fun k => if k = b then false else rk k && D k) (w 3) := by
          apply fb_ct_cong
          intro k _
          by_cases c : k = b
          · simp [c]
          · simp [c]
        omega
      have eD : HD (w 3) rk N (adD (fun s => D s && decide (s ≠ b)) b) = HD (w 3) rk N D := by
        apply hd_cong
        intro x _ _
        unfold adD
        by_cases c : x = b
        · simp [c, hDb]
        · simp [c]
      have oh : onv rk N b (HD (w 3) rk N (fun s => D s && decide (s ≠ b))) = HD (w 3) rk N D := by
        rw [on_hd hb hr (by simp), eD]
      by_cases hn : stp w 98 b r = true
      · have := b1 b hb ho hn
        have h9 := hd_le (N := N) hk (fun s => D s && decide (s ≠ b))
        have := on_mono (rk := rk) (N := N) (s := b) h9
        omega
      · by_cases hc : ∃ c, rch w (alw op rk (fun s => D s && decide (s ≠ b))) r c = true ∧ stp w c b r = true
        · obtain ⟨c, c1, c2⟩ := hc
          have hcl := (rch_t.mp c1).1
          have i := ih (fun s => D s && decide (s ≠ b)) hm' c c1
          have := b2 b c hb hcl ho c2
          have := on_mono (rk := rk) (N := N) (s := b) i
          omega
        · exfalso
          obtain ⟨-, hRb⟩ := rch_t.mp hrb
          have nb : ∀ x, x < w 3 → x ≠ b → alw op rk D x = true → alw op rk (fun s => D s && decide (s ≠ b)) x = true := by
            intro x _ hne ha
            unfold alw at *
            simp only [Bool.and_eq_true, Bool.or_eq_true, decide_eq_true_eq] at *
            exact ⟨ha.1, ha.2.elim Or.inl (fun z => Or.inr ⟨z, hne⟩)⟩
          have : rch w (alw op rk (fun s => D s && decide (s ≠ b))) r b = true := by
            refine hRb (fun s => rch w (alw op rk (fun s => D s && decide (s ≠ b))) r s = true) ?_ ?_
            · intro a ha ho' hst
              have hne : a ≠ b := fun z => hn (by rw [← z]; exact hst)
              exact rch_0 ha (nb a ha hne ho') hst
            · intro a x hS ha hx ho' hst
              have hne : x ≠ b := fun z => hc ⟨a, hS, by rw [← z]; exact hst⟩
              exact rch_s hS hx (nb x hx hne ho') hst
          have bad : ∀ x, rch w (alw op rk (fun s => D s && decide (s ≠ b))) r x = true → x ≠ b := by
            intro x hx
            obtain ⟨-, hRx⟩ := rch_t.mp hx
            refine hRx (fun x => x ≠ b) ?_ ?_
            · intro a _ ho' _ z
              unfold alw at ho'
              rw [z, hr] at ho'
              simp at ho'
            · intro a x _ _ _ ho' _ z
              unfold alw at ho'
              rw [z, hr] at ho'
              simp at ho'
          exact bad b this rfl
    have both := hR (fun s => rch w (alw op rk D) r s = true ∧ HD (w 3) rk N D ≤ ch s) ?_ ?_
    · exact both.2
    · intro a ha ho hst
      have hra := rch_0 ha ho hst
      refine ⟨hra, ?_⟩
      have ho' := ho
      unfold alw at ho'
      simp only [Bool.and_eq_true, Bool.or_eq_true, Bool.not_eq_true'] at ho'
      cases hr : rk a
      · have := b1 a ha ho'.1 hst
        unfold onv at this
        rw [hr, if_neg (by decide)] at this
        have := hd_le (N := N) hk D
        omega
      · rcases ho'.2 with z | z
        · rw [hr] at z
          cases z
        · exact one a ha hr z ho'.1 hra
    · intro a b hS ha hb ho hst
      have hrb := rch_s hS.1 hb ho hst
      refine ⟨hrb, ?_⟩
      have ho' := ho
      unfold alw at ho'
      simp only [Bool.and_eq_true, Bool.or_eq_true, Bool.not_eq_true'] at ho'
      cases hr : rk b
      · have := b2 b a hb ha ho'.1 hst
        unfold onv at this
        rw [hr, if_neg (by decide)] at this
        have := hS.2
        omega
      · rcases ho'.2 with z | z
        · rw [hr] at z
          cases z
        · exact one b hb hr z ho'.1 hrb
/-- what is sure: the greatest chance of a set by which one gets over -/
def crD (w : Nat → Nat) (op rk : Nat → Bool) (r : Nat) (D : Nat → Bool) : Prop := ∃ s, s < w 3 ∧ stp w s 99 r = true ∧ rch w (alw op rk D) r s = true
def SurP (w : Nat → Nat) (op rk : Nat → Bool) (N : Nat → Nat) (r v : Nat) : Prop := (∀ D, crD w op rk r D → HD (w 3) rk N D ≤ v) ∧ (v = 0 ∨ ∃ D, crD w op rk r D ∧ v = HD (w 3) rk N D)
theorem surP_one {w : Nat → Nat} {op rk : Nat → Bool} {N : Nat → Nat} {r v v' : Nat} (h : SurP w op rk N r v) (h' : SurP w op rk N r v') : v = v' := by
  have le : ∀ {a b}, SurP w op rk N r a → SurP w op rk N r b → a ≤ b := by
    intro a b ha hb
    rcases ha.2 with z | ⟨D, d1, d2⟩
    · omega
    · rw [d2]
      exact hb.1 D d1
  have := le h h'
  have := le h' h
  omega
theorem sur_ref {w : Nat → Nat} {op rk : Nat → Bool} {N : Nat → Nat} {r : Nat} (hk : fb_ct rk (w 3) ≤ 4) {ch : Nat → Nat} (H : ChI w op rk N r ch) (b1 : ∀ s, s < w 3 → op s = true → stp w 98 s r = true → onv rk N s 1000000000 ≤ ch s) (b2 : ∀ s q, s < w 3 → q < w 3 → op s = true → stp w q s r = true → onv rk N s (ch q) ≤ ch s) {v : Nat} (h1 : ∀ s, s < w 3 → stp w s 99 r = true → ch s ≤ v) (h2 : v = 0 ∨ ∃ s, s < w 3 ∧ stp w s 99 r = true ∧ v = ch s) : SurP w op rk N r v := by
  refine ⟨?_, ?_⟩
  · rintro D ⟨s, hs, hf, hrc⟩
    have := ch_low hk b1 b2 _ D rfl s hrc
    have := h1 s hs hf
    omega
  · rcases h2 with z | ⟨s, hs, hf, e⟩
    · exact Or.inl z
    · rcases H s hs with q | ⟨D, e', -, hrc⟩
      · left
        omega
      · exact Or.inr ⟨D, ⟨s, hs, hf, hrc⟩, by omega⟩
