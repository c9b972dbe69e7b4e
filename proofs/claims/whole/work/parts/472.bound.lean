/-! ===== ORDERS: the component's questions ===== -/
def MH (L : List Nat) (x : Int32) : Prop := ∀ i, i < 32 → bt x i = decide (i ∈ L)
theorem mh_nil {x : Int32} (h : MH [] x) : x = 0 := (k_z x).mpr (fun i hi => by rw [h i hi]; exact decide_eq_false (by simp))
theorem mh_cons {y : Nat} {L : List Nat} {x : Int32} (hs : (y :: L).Pairwise (· < ·)) (hy : ∀ a, a ∈ y :: L → a < 32) (h : MH (y :: L) x) : ¬ x = 0 ∧ (∀ μ, fnJ6_numberOfTrailingZeros_0f7a4 x μ = some (nI y, μ)) ∧ MH L (x &&& (x - (1 : Int32))) := by
  have y32 := hy y (List.mem_cons_self ..)
  have hs' := List.pairwise_cons.mp hs
  have b1 : bt x y = true := by
    rw [h y y32]
    exact decide_eq_true (List.mem_cons_self ..)
  have b2 : ∀ i, i < y → bt x i = false := by
    intro i hi
    rw [h i (by omega)]
    refine decide_eq_false (fun z => ?_)
    rcases List.mem_cons.mp z with e | e
    · omega
    · have := hs'.1 i e
      omega
  refine ⟨fun z => ?_, ntz_eq y32 b1 b2, fun i hi => ?_⟩
  · rw [z, b_0] at b1
    cases b1
  · rw [k_clear y32 b1 b2 hi, h i hi]
    by_cases c : i = y
    · subst c
      rw [decide_eq_false (show ¬ i ≠ i from fun z => z rfl), Bool.and_false, decide_eq_false]
      intro z
      have := hs'.1 i z
      omega
    · rw [decide_eq_true c, Bool.and_true]
      refine decide_eq_decide.mpr ⟨fun z => ?_, fun z => List.mem_cons_of_mem _ z⟩
      rcases List.mem_cons.mp z with e | e
      · exact absurd e c
      · exact e
theorem mh_erase {y : Nat} {L : List Nat} {x : Int32} (hn : L.Nodup) (hy : y < 32) (h : MH L x) : MH (L.erase y) (x &&& (((1 : Int32) <<< (nI y &&& 31)) ^^^ (-1 : Int32))) := by
  intro i hi
  rw [b_and, h i hi, k_not _ hi, k_1 y hy i hi]
  by_cases c : i = y
  · rw [decide_eq_true c, Bool.not_true, Bool.and_false, decide_eq_false]
    intro z
    exact ((hn.mem_erase_iff).mp z).1 c
  · rw [decide_eq_false c, Bool.not_false, Bool.and_true]
    exact decide_eq_decide.mpr ⟨fun z => (hn.mem_erase_iff).mpr ⟨c, z⟩, fun z => ((hn.mem_erase_iff).mp z).2⟩
/-- what is held so far -/
def BH (b : Option ((Nat × Nat) × List Nat)) (μ : sm_Mem) : Prop := match b with
  | none => μ.1 42 0 = mI 1 ∧ μ.1 42 1 = mI 1
  | some y => μ.1 42 0 = nI y.1.1 ∧ μ.1 42 1 = nI y.1.2 ∧ y.1.1 ≤ 10000 ∧ y.1.2 ≤ 10000 ∧ ∀ i, i < y.2.length → μ.1 45 i = nI (fnL y.2 i)
def bBt (b : Option ((Nat × Nat) × List Nat)) (x : Nat × Nat) : Bool := match b with
  | none => true
  | some y => better x y.1
theorem isBetter_eq {b : Option ((Nat × Nat) × List Nat)} {μ : sm_Mem} {m v : Nat} (hm : m ≤ 10000) (hv : v ≤ 10000) (h : BH b μ) : fnX5_isBetter 42 (nI m) (nI v) μ = some (bBt b (m, v), μ) := by
  unfold fnX5_isBetter
  rw [e_gi]
  cases b with
  | none =>
    have : μ.1 42 0 < nI m := by
      rw [h.1, Int32.lt_iff_toInt_lt, nI_toInt (by omega)]
      have : (mI 1).toInt = -1 := by decide
      omega
    rw [e_T this]
    rfl
  | some y =>
    obtain ⟨h1, h2, h3, h4, _⟩ := h
    show _ = some (better (m, v) y.1, μ)
    unfold better
    rw [h1]
    by_cases c1 : y.1.1 < m
    · rw [e_T (nI_lt c1 (by omega)), decide_eq_true (Or.inl c1)]
      rfl
    · rw [e_F (nI_nlt (by omega) (by omega)), e_gi, h1]
      by_cases c2 : m = y.1.1
      · rw [e_T (by rw [c2]), e_gi, h2]
        by_cases c3 : v ≤ y.1.2
        · rw [e_T (nI_le c3 (by omega)), decide_eq_false (by rintro (z | z) <;> omega)]
          rfl
        · rw [e_F (nI_ge (by omega) (by omega)), decide_eq_true (Or.inr ⟨c2, show y.1.2 < v by omega⟩)]
          rfl
      · rw [e_F (fun z => c2 ((nI_eq (by omega) (by omega)).mp z)), decide_eq_false (by rintro (z | z) <;> omega)]
        rfl
section
variable {w : Nat → Nat} {μ : sm_Mem}
theorem worthU (hR : RH 14 w μ) (hG : Good w) {u : Nat} (hu : u < w 4) (hl : lead w u = true) : ∃ m, fnX7_peopleOf 14 (nI u) μ = some (m, μ) ∧ fnX7_worthOf 14 m μ = some (nI (uSum w 2 u), μ) := by
  have n := hG.1
  obtain ⟨m, h1, h2⟩ := peopleOf7 hR hG hu
  refine ⟨m, h1, ?_⟩
  have hb : ∀ p, p < w 4 → bt m p = ppl w (fun k => (fun _ => false) k || decide (k = u)) p := by
    intro p hp
    rw [h2 p (by omega), ppl_add hG hu hl (by omega)]
    have : ppl w (fun _ => false) p = false := by
      unfold ppl
      rw [Bool.and_false]
    rw [this, Bool.false_or]
    exact decide_eq_decide.mpr ⟨fun z => ⟨hp, z⟩, fun z => z.2⟩
  rw [worthOf_eq hR hG hb, sum_add hG hu hl (fun k hk => by cases hk) (fun p => w (187 + 7 * p))]
  have z0 : fb_sm (fun p => if ppl w (fun _ => false) p = true then w (187 + 7 * p) else 0) (w 4) = 0 := by
    have : ∀ k, fb_sm (fun p => if ppl w (fun _ => false) p = true then w (187 + 7 * p) else 0) k = 0 := by
      intro k
      induction k with
      | zero => rfl
      | succ k ih =>
        have e : (if ppl w (fun _ => false) k = true then w (187 + 7 * k) else 0) = 0 := by
          have : ppl w (fun _ => false) k = false := by
            unfold ppl
            rw [Bool.and_false]
          rw [this, if_neg (by decide)]
        show fb_sm _ k + (if ppl w (fun _ => false) k = true then w (187 + 7 * k) else 0) = 0
        rw [ih, e]
    exact this _
  rw [z0, Nat.zero_add]
  unfold uSum
  rw [show 185 + 7 * u + 2 = 187 + 7 * u by omega, show 185 + 7 * (w (190 + 7 * u) - 1) + 2 = 187 + 7 * (w (190 + 7 * u) - 1) by omega]
theorem twin_L (hR : RH 14 w μ) (hG : Good w) {R : List Nat} (hRl : ∀ a, a ∈ R → a < w 4 ∧ lead w a = true) {m : Int32} (hm : MH R m) {x : Nat} (hx : x < w 4) (hlx : lead w x = true) : ∀ f y, x - y < f → y ≤ x → (∀ a, a < y → ¬ (a ∈ R ∧ tyW w a = tyW w x)) → ∃ r, fnX5_hasTwin_L2 f 42 m (nI x) (nI y) μ = some (r, μ) ∧ (r = true ↔ ∃ a, a < x ∧ a ∈ R ∧ tyW w a = tyW w x) := by
  have n := hG.1
  intro f
  induction f with
  | zero => intro y h; omega
  | succ f ih =>
    intro y hf hy hn
    unfold fnX5_hasTwin_L2
    by_cases c : y = x
    · subst c
      rw [e_T (nI_le (Nat.le_refl y) (by omega))]
      exact ⟨false, rfl, ⟨fun z => (by cases z), fun ⟨a, a1, a2, a3⟩ => absurd ⟨a2, a3⟩ (hn a a1)⟩⟩
    · rw [e_F (nI_ge (by omega) (by omega))]
      have next : ¬ (y ∈ R ∧ tyW w y = tyW w x) → ∃ r, fnX5_hasTwin_J107 (fnX5_hasTwin_L2 f) 42 m (nI x) (nI y) μ = some (r, μ) ∧ (r = true ↔ ∃ a, a < x ∧ a ∈ R ∧ tyW w a = tyW w x) := by
        intro hno
        unfold fnX5_hasTwin_J107
        rw [nI_1]
        refine ih (y + 1) (by omega) (by omega) (fun a ha => ?_)
        by_cases e : a = y
        · rw [e]
          exact hno
        · exact hn a (by omega)
      by_cases cR : y ∈ R
      · obtain ⟨y1, y2⟩ := hRl y cR
        have s1 := uStr_rng hG y1
        have s2 := uStr_rng hG hx
        have t1 := uWt_rng hG y1
        have t2 := uWt_rng hG hx
        have v1 := uSum3_le (k := 2) hG y1 (by omega)
        have v2 := uSum3_le (k := 2) hG hx (by omega)
        rw [e_F (fun z => by rw [k_t0 m (by omega), hm y (by omega), decide_eq_true cR] at z; cases z), lk_42_2, e_b (strideOf7 hR hG y1), e_b (strideOf7 hR hG hx)]
        by_cases c1 : uStr w y = uStr w x
        · rw [e_T (by rw [c1]), e_b (weightOf7 hR hG y1), e_b (weightOf7 hR hG hx)]
          by_cases c2 : uSum w 1 y = uSum w 1 x
          · rw [e_T (by rw [c2]), e_b (mustGo7 hR hG y1), e_b (mustGo7 hR hG hx)]
            by_cases c3 : decide (0 < uSum w 3 y) = decide (0 < uSum w 3 x)
            · obtain ⟨my, p1, p2⟩ := worthU hR hG y1 y2
              obtain ⟨mx, q1, q2⟩ := worthU hR hG hx hlx
              rw [e_T (by rw [c3]), e_b p1, e_b p2, e_b q1, e_b q2]
              by_cases c4 : uSum w 2 y = uSum w 2 x
              · rw [e_T (by rw [c4])]
                refine ⟨true, rfl, fun _ => ⟨y, by omega, cR, ?_⟩, fun _ => rfl⟩
                unfold tyW
                rw [c1, c2, c3, c4]
              · rw [e_F (fun z => c4 ((nI_eq (by omega) (by omega)).mp z))]
                refine next (fun z => c4 ?_)
                have := z.2
                unfold tyW at this
                exact (Prod.mk.inj (Prod.mk.inj (Prod.mk.inj this).2).2).2
            · rw [e_F (fun z => c3 (by cases h1 : decide (0 < uSum w 3 y) <;> cases h2 : decide (0 < uSum w 3 x) <;> rw [h1, h2] at z <;> first | rfl | (revert z; decide)))]
              refine next (fun z => c3 ?_)
              have := z.2
              unfold tyW at this
              exact (Prod.mk.inj (Prod.mk.inj (Prod.mk.inj this).2).2).1
          · rw [e_F (fun z => c2 ((nI_eq (by omega) (by omega)).mp z))]
            refine next (fun z => c2 ?_)
            have := z.2
            unfold tyW at this
            exact (Prod.mk.inj (Prod.mk.inj this).2).1
        · rw [e_F (fun z => c1 ((nI_eq (by omega) (by omega)).mp z))]
          refine next (fun z => c1 ?_)
          have := z.2
          unfold tyW at this
          exact (Prod.mk.inj this).1
      · rw [e_T ((k_t0 m (by omega)).mpr (by rw [hm y (by omega)]; exact decide_eq_false cR))]
        exact next (fun z => cR z.1)
theorem twin_eq (hR : RH 14 w μ) (hG : Good w) {R : List Nat} (hRl : ∀ a, a ∈ R → a < w 4 ∧ lead w a = true) {m : Int32} (hm : MH R m) {x : Nat} (hx : x < w 4) (hlx : lead w x = true) : ∃ r, fnX5_hasTwin 42 m (nI x) μ = some (r, μ) ∧ (r = true ↔ ∃ a, a < x ∧ a ∈ R ∧ tyW w a = tyW w x) := by
  have n := hG.1
  exact twin_L hR hG hRl hm hx hlx 4096 0 (by omega) (by omega) (fun a ha => by omega)
theorem couldGo_eq {c : Nat} {z : Nat → Nat} (hc : isSc c) (hR : RH 14 z μ) (hS : SH c z μ) (hL : LKS z μ) (hG : Good z) {u : Nat} (hu : u < z 4) : ∃ x, fnX0_couldGo 41 c (nI u) μ = some (x, μ) ∧ (x = true ↔ cgo z u) := by
  have n := hG.1
  have s1 := uStr_rng hG hu
  have t1 := uWt_rng hG hu
  have e1 : z 1 ≤ 12 := by
    by_cases c : z 0 = 0
    · have := hG.2.1 c
      omega
    · have := hG.2.2.1 (by omega)
      omega
  unfold fnX0_couldGo
  rw [(sc_lk hc).1, e_b (strideOf7 hR hG hu), e_gi, hR.1.2.1]
  by_cases c1 : z 1 ≤ uStr z u
  · rw [e_T (nI_le c1 (by omega))]
    exact ⟨true, rfl, fun _ => Or.inl c1, fun _ => rfl⟩
  · obtain ⟨x, x1, x2⟩ := crosses_eq (op := opn z (uSum z 1 u)) (om := mk (opn z (uSum z 1 u)) (z 3)) hL hG s1.1 s1.2 (opn_hom hG (uSum z 1 u))
    rw [e_F (nI_ge (by omega) (by omega)), e_b (weightOf7 hR hG hu), e_b (openFor_eq hR hS hc hG (by omega)), lk_41_0, lk_36_2, e_b x1]
    cases x with
    | false =>
      rw [e_T (by decide)]
      refine ⟨false, rfl, fun z => (by cases z), fun z => ?_⟩
      rcases z with z | z
      · exact absurd z c1
      · exact x2.mpr z
    | true =>
      rw [e_F (by decide)]
      exact ⟨true, rfl, fun _ => Or.inr (x2.mp rfl), fun _ => rfl⟩
theorem better_L {b : Option ((Nat × Nat) × List Nat)} (hb : BH b μ) {c : Nat} {z : Nat → Nat} (hc : isSc c) (hw : RH 14 w μ) (hGw : Good w) (hsz : Same w z) (hS : SH c z μ) (hL : LKS w μ) (hG : Good z) : ∀ (L : List Nat) (x : Int32) (m v f : Nat), L.length < f → L.Pairwise (· < ·) → (∀ a, a ∈ L → a < w 4 ∧ lead w a = true) → MH L x → m + L.length ≤ 10000 → v + 198 * L.length ≤ 10000 → fnX5_couldBeBetter_L10 f 42 c (nI m) (nI v) x μ = some (bBt b (m + (L.map (mB z)).sum, v + (L.map (vB z)).sum), μ) := by
  have n := hGw.1
  have e4 := hsz.1 4 (by omega)
  intro L
  induction L with
  | nil =>
    intro x m v f hf hs hl hx hm hv
    obtain ⟨f, rfl⟩ : ∃ g, f = g + 1 := ⟨f - 1, by omega⟩
    unfold fnX5_couldBeBetter_L10
    rw [e_T (mh_nil hx)]
    unfold fnX5_couldBeBetter_J90
    rw [e_b (isBetter_eq (by omega) (by omega) hb)]
    rfl
  | cons u L ih =>
    intro x m v f hf hs hl hx hm hv
    rw [List.length_cons] at hf hm hv
    obtain ⟨f, rfl⟩ : ∃ g, f = g + 1 := ⟨f - 1, by omega⟩
    obtain ⟨h1, h2, h3⟩ := mh_cons hs (fun a ha => by have := (hl a ha).1; omega) hx
    obtain ⟨u1, u2⟩ := hl u (List.mem_cons_self ..)
    obtain ⟨y, y1, y2⟩ := couldGo_eq hc (same_rh hsz hGw hw) hS (same_lks hsz hGw hL) hG (u := u) (by omega)
    have hs' := (List.pairwise_cons.mp hs).2
    have hl' : ∀ a, a ∈ L → a < w 4 ∧ lead w a = true := fun a ha => hl a (List.mem_cons_of_mem _ ha)
    rw [List.map_cons, List.map_cons, List.sum_cons, List.sum_cons]
    unfold fnX5_couldBeBetter_L10
    rw [e_F h1, e_b (h2 μ), lk_42_3, e_b y1]
    cases y with
    | false =>
      have nc : ¬ cgo z u := fun z => by have := y2.mpr z; cases this
      have em : mB z u = 0 := by
        unfold mB
        rw [@if_neg _ (Classical.propDecidable _) nc]
      have ev : vB z u = 0 := by
        unfold vB
        rw [@if_neg _ (Classical.propDecidable _) nc]
      rw [e_T (by decide), em, ev, Nat.zero_add, Nat.zero_add]
      unfold fnX5_couldBeBetter_J78
      rw [e_nm']
      exact ih _ m v f (by omega) hs' hl' h3 (by omega) (by omega)
    | true =>
      have yc : cgo z u := y2.mp rfl
      have em : mB z u = if 0 < uSum w 3 u then 1 else 0 := by
        unfold mB
        rw [@if_pos _ (Classical.propDecidable _) yc, same_sum hsz hGw u1 (by omega)]
      have ev : vB z u = uSum w 2 u := by
        unfold vB
        rw [@if_pos _ (Classical.propDecidable _) yc, same_sum hsz hGw u1 (by omega)]
      have v1 := uSum3_le (k := 2) hGw u1 (by omega)
      obtain ⟨mu, p1, p2⟩ := worthU hw hGw u1 u2
      have go : ∀ d : Nat, d ≤ 1 → d = mB z u → fnX5_couldBeBetter_J54 (fnX5_couldBeBetter_L10 f) 42 c (nI v) x (nI u) (nI d) (nI m) μ = some (bBt b (m + (mB z u + (L.map (mB z)).sum), v + (vB z u + (L.map (vB z)).sum)), μ) := by
        intro d d1 hd
        unfold fnX5_couldBeBetter_J54
        rw [nI_add, e_nm', lk_42_2, e_b p1, e_b p2, nI_add, e_nm']
        unfold fnX5_couldBeBetter_J78
        rw [e_nm', ih _ (m + d) (v + uSum w 2 u) f (by omega) hs' hl' h3 (by omega) (by omega), hd, ev, Nat.add_assoc, Nat.add_assoc]
      rw [e_F (by decide), lk_42_2, e_b (mustGo7 hw hGw u1)]
      by_cases c3 : 0 < uSum w 3 u
      · rw [if_pos c3] at em
        rw [decide_eq_true c3, e_F (by decide)]
        exact go 1 (by omega) em.symm
      · rw [if_neg c3] at em
        rw [decide_eq_false c3, e_T (by decide)]
        exact go 0 (by omega) em.symm
end
