/-! ===== TOKENS: one further ===== -/
def AdK (tp : Nat → Int32) (n p : Nat) (μ : sm_Mem) : Prop := μ.1 2 5 = nI (aSt tp n p) ∧ μ.1 2 6 = nI (aEn tp n p) ∧ μ.1 2 7 = nI (aKd tp n p) ∧ (aKd tp n p = 2 → μ.1 2 8 = nI (min 1000 (aVl tp n p)))
theorem adv60 {tp : Nat → Int32} {n p : Nat} (hn : n ≤ 1600) (hp : p ≤ n) {μ0 μ : sm_Mem} (hT : Tap6 tp n μ0) (hr : FrK μ0 μ) (h5 : μ.1 2 5 = nI (aSt tp n p)) : T (fnX6_advance_J60 2) μ (fun _ μ' => AdK tp n p μ' ∧ FrK μ0 μ') := by
  have e_1 : ln 1 = 1600 := rfl
  have hl := adv_le (tp := tp) hp
  unfold fnX6_advance_J60
  rw [t_gi, h5, t_si, t_si]
  have r1 : FrK μ0 (u2 (u2 μ.1 2 6 (nI (aSt tp n p))) 2 8 0, μ.2) := frK_si (μ := (u2 μ.1 2 6 (nI (aSt tp n p)), μ.2)) (frK_si hr (by omega) (by omega)) (by omega) (by omega)
  have x5 : (u2 (u2 μ.1 2 6 (nI (aSt tp n p))) 2 8 0, μ.2).1 2 5 = nI (aSt tp n p) := by
    rw [← h5]
    simp (disch := omega) only [u2_ne, u2_a, u2_k, u2_at]
  have x6 : (u2 (u2 μ.1 2 6 (nI (aSt tp n p))) 2 8 0, μ.2).1 2 6 = nI (aSt tp n p) := (by simp (disch := omega) only [u2_ne, u2_a, u2_k, u2_at])
  have x8 : (u2 (u2 μ.1 2 6 (nI (aSt tp n p))) 2 8 0, μ.2).1 2 8 = 0 := (by simp (disch := omega) only [u2_ne, u2_a, u2_k, u2_at])
  revert r1 x5 x6 x8
  generalize (u2 (u2 μ.1 2 6 (nI (aSt tp n p))) 2 8 0, μ.2) = μ1
  intro r1 x5 x6 x8
  have t := tap6_fr r1 hT
  rw [t_gi, x5, t_gi, t.2.1]
  by_cases c : n ≤ aSt tp n p
  · have ek : aKd tp n p = 0 := by
      unfold aKd
      rw [if_pos c]
    have ee : aEn tp n p = aSt tp n p := by
      unfold aEn
      rw [if_pos c]
    rw [t_brF (nI_nlt c (by omega)), t_si, t_ret]
    refine ⟨⟨?_, ?_, ?_, fun z => by omega⟩, frK_si r1 (by omega) (by omega)⟩
    · rw [← x5]
      simp (disch := omega) only [u2_ne, u2_a, u2_k, u2_at]
    · rw [ee, ← x6]
      simp (disch := omega) only [u2_ne, u2_a, u2_k, u2_at]
    · rw [ek]
      simp (disch := omega) only [u2_ne, u2_a, u2_k, u2_at]
      rfl
  · rw [t_brT (nI_lt (by omega) (by omega)), t_gt (by rw [t.1]; rfl), t.1, t_gi, x5, t_ai (by omega), t.2.2 _ (by omega), t_bnd, t_eq (isL6 _ _)]
    cases q : isL (tp (aSt tp n p))
    · rw [t_brT (by decide), t_gt (by rw [t.1]; rfl), t.1, t_gi, x5, t_ai (by omega), t.2.2 _ (by omega), t_bnd, t_eq (isD6 _ _)]
      cases q2 : isD (tp (aSt tp n p))
      · have ee : aEn tp n p = aSt tp n p + 1 := by
          unfold aEn
          rw [if_neg c, if_neg (by rw [q]; decide), if_neg (by rw [q2]; decide)]
        have fin : ∀ v, aKd tp n p = v → v ≠ 2 → T (fnX6_advance_J260 2 (nI v) 2) μ1 (fun _ μ' => AdK tp n p μ' ∧ FrK μ0 μ') := by
          intro v hv hv2
          unfold fnX6_advance_J260
          rw [t_si, t_gi, show (u2 μ1.1 2 7 (nI v), μ1.2).1 2 6 = nI (aSt tp n p) by rw [← x6]; simp (disch := omega) only [u2_ne, u2_a, u2_k, u2_at], nI_1, t_si, t_ret]
          refine ⟨⟨?_, ?_, ?_, fun z => by omega⟩, frK_si (μ := (u2 μ1.1 2 7 (nI v), μ1.2)) (frK_si r1 (by omega) (by omega)) (by omega) (by omega)⟩
          · rw [← x5]
            simp (disch := omega) only [u2_ne, u2_a, u2_k, u2_at]
          · rw [ee]
            simp (disch := omega) only [u2_ne, u2_a, u2_k, u2_at]
          · rw [hv]
            simp (disch := omega) only [u2_ne, u2_a, u2_k, u2_at]
        rw [t_brT (by decide), t_gt (by rw [t.1]; rfl), t.1, t_gi, x5, t_ai (by omega), t.2.2 _ (by omega), li_3, li_4]
        by_cases q3 : tp (aSt tp n p) = 59
        · rw [t_brT q3]
          refine fin 3 ?_ (by omega)
          unfold aKd
          rw [if_neg c, if_neg (by rw [q]; decide), if_neg (by rw [q2]; decide), if_pos q3]
        · rw [t_brF q3]
          refine fin 4 ?_ (by omega)
          unfold aKd
          rw [if_neg c, if_neg (by rw [q]; decide), if_neg (by rw [q2]; decide), if_neg q3]
      · have ek : aKd tp n p = 2 := by
          unfold aKd
          rw [if_neg c, if_neg (by rw [q]; decide), if_pos q2]
        have ee : aEn tp n p = (dgt tp (n - aSt tp n p) (aSt tp n p) 0).2 := by
          unfold aEn
          rw [if_neg c, if_neg (by rw [q]; decide), if_pos q2]
        rw [t_brF (by decide), t_si]
        refine t_mono (dgt6_L hn hT 4096 (aSt tp n p) 0 _ (by omega) (by omega) (frK_si r1 (by omega) (by omega)) (by rw [← x6]; simp (disch := omega) only [u2_ne, u2_a, u2_k, u2_at]) (by
          show u2 μ1.1 2 7 2 2 8 = nI 0
          rw [u2_k (by omega), x8]
          rfl)) ?_
        rintro _ μ' ⟨a1, a2, a3, a4⟩
        refine ⟨⟨?_, by rw [ee]; exact a1, ?_, fun _ => a2⟩, a4⟩
        · rw [a3 5 (by omega) (by omega), ← x5]
          simp (disch := omega) only [u2_ne, u2_a, u2_k, u2_at]
        · rw [a3 7 (by omega) (by omega), ek]
          simp (disch := omega) only [u2_ne, u2_a, u2_k, u2_at]
          rfl
    · have ek : aKd tp n p = 1 := by
        unfold aKd
        rw [if_neg c, if_pos q]
      have ee : aEn tp n p = wrd tp (n - aSt tp n p) (aSt tp n p) := by
        unfold aEn
        rw [if_neg c, if_pos q]
      rw [t_brF (by decide), t_si]
      refine t_mono (wrd6_L hn hT 4096 (aSt tp n p) _ (by omega) (by omega) (frK_si r1 (by omega) (by omega)) (by rw [← x6]; simp (disch := omega) only [u2_ne, u2_a, u2_k, u2_at])) ?_
      rintro _ μ' ⟨a1, a2, a3⟩
      refine ⟨⟨?_, by rw [ee]; exact a1, ?_, fun z => by omega⟩, a3⟩
      · rw [a2 5 (by omega), ← x5]
        simp (disch := omega) only [u2_ne, u2_a, u2_k, u2_at]
      · rw [a2 7 (by omega), ek]
        simp (disch := omega) only [u2_ne, u2_a, u2_k, u2_at]
        rfl
theorem skp6_L {tp : Nat → Int32} {n : Nat} (hn : n ≤ 1600) {μ0 : sm_Mem} (hT : Tap6 tp n μ0) {Q : Unit → sm_Mem → Prop} {s : Nat} (ex : ∀ μ, FrK μ0 μ → μ.1 2 5 = nI s → T (fnX6_advance_J60 2) μ Q) : ∀ (f p : Nat) (μ : sm_Mem), n - p < f → p ≤ n → FrK μ0 μ → μ.1 2 5 = nI p → skp tp (n - p) p = s → T (fnX6_advance_L8 f 2) μ Q := by
  have e_1 : ln 1 = 1600 := rfl
  intro f
  induction f with
  | zero =>
    intro p μ h
    omega
  | succ f ih =>
    intro p μ hf hp hr h5 hs
    have t := tap6_fr hr hT
    unfold fnX6_advance_L8 fnX6_advance_J47
    rw [t_gi, h5, t_gi, t.2.1]
    by_cases c : n ≤ p
    · rw [show n - p = 0 by omega] at hs
      rw [t_brT (nI_le c (by omega))]
      exact ex μ hr (by rw [h5, ← hs]; rfl)
    · rw [show n - p = (n - (p + 1)) + 1 by omega, skp] at hs
      rw [t_brF (nI_ge (by omega) (by omega)), t_gt (by rw [t.1]; rfl), t.1, t_gi, h5, t_ai (by omega), t.2.2 p (by omega)]
      have go : isB (tp p) = true → T (m_gi 2 5 fun x49 => m_si 2 5 (x49 + (1 : Int32)) <| fnX6_advance_L8 f 2) μ Q := by
        intro hb
        rw [if_pos hb] at hs
        rw [t_gi, h5, nI_1, t_si]
        exact ih (p + 1) _ (by omega) (by omega) (frK_si hr (by omega) (by omega)) (by simp (disch := omega) only [u2_ne, u2_a, u2_k, u2_at]) hs
      by_cases q1 : tp p = 32
      · rw [t_brT q1]
        exact go (decide_eq_true (Or.inl q1))
      · rw [t_brF q1, t_gt (by rw [t.1]; rfl), t.1, t_gi, h5, t_ai (by omega), t.2.2 p (by omega)]
        by_cases q2 : tp p = 10
        · rw [t_brT q2]
          exact go (decide_eq_true (Or.inr q2))
        · rw [t_brF q2]
          rw [if_neg (by unfold isB; simp [q1, q2])] at hs
          exact ex μ hr (by rw [h5, hs])
theorem adv6_T {tp : Nat → Int32} {n p : Nat} (hn : n ≤ 1600) (hp : p ≤ n) {μ : sm_Mem} (hT : Tap6 tp n μ) (h6 : μ.1 2 6 = nI p) : T (fnX6_advance 2) μ (fun _ μ' => AdK tp n p μ' ∧ FrK μ μ') := by
  unfold fnX6_advance
  rw [t_gi, h6, t_si]
  refine skp6_L hn hT (s := aSt tp n p) (fun μ1 r1 h => adv60 hn hp hT r1 h) 4096 p _ (by omega) hp (frK_si (frK_rf μ) (by omega) (by omega)) (by simp (disch := omega) only [u2_ne, u2_a, u2_k, u2_at]) rfl
/-! the reference's -/
def Tap12 (tp : Nat → Int32) (n : Nat) (μ : sm_Mem) : Prop := μ.1 146 7 = nI n ∧ ∀ k, k < n → μ.1 150 k = tp k
def FrJ (μ0 μ : sm_Mem) : Prop := (∀ k, (k < 8 ∨ 12 ≤ k) → μ.1 146 k = μ0.1 146 k) ∧ (∀ a, a ≠ 146 → μ.1 a = μ0.1 a) ∧ μ.2 = μ0.2
theorem frJ_rf (μ : sm_Mem) : FrJ μ μ := ⟨fun _ _ => rfl, fun _ _ => rfl, rfl⟩
theorem frJ_tr {μ μ1 μ2 : sm_Mem} (h : FrJ μ μ1) (h' : FrJ μ1 μ2) : FrJ μ μ2 := ⟨fun k q => (h'.1 k q).trans (h.1 k q), fun a q => (h'.2.1 a q).trans (h.2.1 a q), h'.2.2.trans h.2.2⟩
theorem tap12_fr {tp : Nat → Int32} {n : Nat} {μ μ1 : sm_Mem} (h : FrJ μ μ1) (H : Tap12 tp n μ) : Tap12 tp n μ1 := ⟨by rw [h.1 7 (by omega)]; exact H.1, fun k hk => by rw [h.2.1 150 (by omega)]; exact H.2 k hk⟩
theorem frJ_si {μ0 μ : sm_Mem} {k : Nat} {x : Int32} (h : FrJ μ0 μ) (hk : 8 ≤ k) (hk2 : k < 12) : FrJ μ0 (u2 μ.1 146 k x, μ.2) := by
  refine ⟨fun j hj => ?_, fun a ha => ?_, h.2.2⟩
  · show u2 μ.1 146 k x 146 j = _
    rw [u2_k (by omega)]
    exact h.1 j hj
  · show u2 μ.1 146 k x a = _
    rw [u2_ne ha]
    exact h.2.1 a ha
def seeW (tp : Nat → Int32) (n p : Nat) : Int32 := if n ≤ p then -1 else tp p &&& 255
theorem see12 {tp : Nat → Int32} {n p : Nat} (hn : n ≤ 1600) (hp : p ≤ 1600) {μ : sm_Mem} (hT : Tap12 tp n μ) : fnX12_see 146 (nI p) μ = some (seeW tp n p, μ) := by
  have e_150 : ln 150 = 1600 := rfl
  unfold fnX12_see seeW
  rw [e_gi, hT.1]
  by_cases c : n ≤ p
  · rw [e_T (nI_le c (by omega)), if_pos c]
    rfl
  · rw [e_F (nI_ge (by omega) (by omega)), lk_146_4, e_ai (by omega), hT.2 p (by omega), if_neg c]
    rfl
theorem seeW_rg {tp : Nat → Int32} {n p : Nat} (hB : Byt tp n) {a b : Int} (ha : 0 ≤ a) (hb : b < 128) : rg (seeW tp n p) a b = (decide (p < n) && rg (tp p) a b) := by
  unfold seeW
  by_cases c : n ≤ p
  · rw [if_pos c, decide_eq_false (by omega), Bool.false_and]
    unfold rg
    apply decide_eq_false
    have e : (-1 : Int32).toInt = -1 := by decide
    rw [e]
    omega
  · obtain ⟨b1, b2⟩ := hB p (by omega)
    rw [if_neg c, decide_eq_true (by omega), Bool.true_and, see_rg b1 b2 ha hb]
theorem seeW_eq {tp : Nat → Int32} {n p : Nat} (hB : Byt tp n) {c : Int32} (hc : 0 ≤ c.toInt) (hc2 : c.toInt < 128) : seeW tp n p = c ↔ p < n ∧ tp p = c := by
  unfold seeW
  by_cases h : n ≤ p
  · rw [if_pos h]
    have e : (-1 : Int32).toInt = -1 := by decide
    constructor
    · intro z
      rw [← z, e] at hc
      omega
    · intro z
      omega
  · obtain ⟨b1, b2⟩ := hB p (by omega)
    rw [if_neg h, see_eq b1 b2 hc hc2]
    exact ⟨fun z => ⟨by omega, z⟩, fun z => z.2⟩
theorem seeW_m1 {tp : Nat → Int32} {n p : Nat} (hB : Byt tp n) : seeW tp n p = -1 ↔ n ≤ p := by
  unfold seeW
  by_cases h : n ≤ p
  · rw [if_pos h]
    exact ⟨fun _ => h, fun _ => rfl⟩
  · obtain ⟨b1, b2⟩ := hB p (by omega)
    rw [if_neg h]
    refine ⟨fun z => ?_, fun z => absurd z h⟩
    have := see_i b1 b2
    rw [z, show (-1 : Int32).toInt = -1 by decide] at this
    split at this <;> omega
theorem t64c : (97 : Int64).toInt = 97 ∧ (122 : Int64).toInt = 122 ∧ (48 : Int64).toInt = 48 ∧ (57 : Int64).toInt = 57 := by decide
theorem wrd12_L {tp : Nat → Int32} {n : Nat} (hn : n ≤ 1600) (hB : Byt tp n) {μ0 : sm_Mem} (hT : Tap12 tp n μ0) : ∀ (f p : Nat) (μ : sm_Mem), n - p < f → p ≤ n → FrJ μ0 μ → μ.1 146 8 = nI p → T (fnX12_advance_L83 f 146) μ (fun _ μ' => μ'.1 146 8 = nI (wrd tp (n - p) p) ∧ μ'.1 146 10 = nI 1 ∧ (∀ k, k ≠ 8 → k ≠ 10 → μ'.1 146 k = μ.1 146 k) ∧ FrJ μ0 μ') := by
  intro f
  induction f with
  | zero =>
    intro p μ h
    omega
  | succ f ih =>
    intro p μ hf hp hr h8
    have t := tap12_fr hr hT
    have stop : T (fnX12_advance_J117 146) μ (fun _ μ' => μ'.1 146 8 = nI p ∧ μ'.1 146 10 = nI 1 ∧ (∀ k, k ≠ 8 → k ≠ 10 → μ'.1 146 k = μ.1 146 k) ∧ FrJ μ0 μ') := by
      unfold fnX12_advance_J117
      rw [t_si, t_ret, li_1]
      refine ⟨?_, (by simp (disch := omega) only [u2_ne, u2_a, u2_k, u2_at]), fun k h1 h2 => ?_, frJ_si hr (by omega) (by omega)⟩
      · rw [← h8]
        simp (disch := omega) only [u2_ne, u2_a, u2_k, u2_at]
      · show u2 μ.1 146 10 _ 146 k = _
        rw [u2_k h2]
    unfold fnX12_advance_L83
    rw [t_gi, h8, t_bnd, t_eq (see12 hn (by omega) t), t_bnd, t_eq (in_eq _ _ _ _), t64c.1, t64c.2.1, seeW_rg hB (by omega) (by omega)]
    by_cases c : n ≤ p
    · rw [decide_eq_false (by omega), Bool.false_and, t_brT (by decide), show n - p = 0 by omega]
      exact stop
    · rw [decide_eq_true (by omega), Bool.true_and, show n - p = (n - (p + 1)) + 1 by omega, wrd]
      show T (m_br (bI (isL (tp p)) = 0) _ _) μ _
      cases q : isL (tp p)
      · rw [t_brT (by decide), if_neg (by decide)]
        exact stop
      · rw [t_brF (by decide), t_gi, h8, nI_1, t_si, if_pos rfl]
        refine t_mono (ih (p + 1) _ (by omega) (by omega) (frJ_si hr (by omega) (by omega)) (by simp (disch := omega) only [u2_ne, u2_a, u2_k, u2_at])) ?_
        rintro _ μ' ⟨a1, a2, a3, a4⟩
        refine ⟨a1, a2, fun k h1 h2 => ?_, a4⟩
        rw [a3 k h1 h2]
        show u2 μ.1 146 8 _ 146 k = _
        rw [u2_k h1]
theorem dgt12_L {tp : Nat → Int32} {n : Nat} (hn : n ≤ 1600) (hB : Byt tp n) {μ0 : sm_Mem} (hT : Tap12 tp n μ0) : ∀ (f p v : Nat) (μ : sm_Mem), n - p < f → p ≤ n → FrJ μ0 μ → μ.1 146 8 = nI p → μ.1 146 11 = nI (min 99999 v) → T (fnX12_advance_L144 f 146) μ (fun _ μ' => μ'.1 146 8 = nI (dgt tp (n - p) p v).2 ∧ μ'.1 146 11 = nI (min 99999 (dgt tp (n - p) p v).1) ∧ μ'.1 146 10 = nI 2 ∧ μ'.1 146 9 = μ.1 146 9 ∧ FrJ μ0 μ') := by
  intro f
  induction f with
  | zero =>
    intro p v μ h
    omega
  | succ f ih =>
    intro p v μ hf hp hr h8 h11
    have t := tap12_fr hr hT
    have stop : T (fnX12_advance_J206 146) μ (fun _ μ' => μ'.1 146 8 = nI p ∧ μ'.1 146 11 = nI (min 99999 v) ∧ μ'.1 146 10 = nI 2 ∧ μ'.1 146 9 = μ.1 146 9 ∧ FrJ μ0 μ') := by
      unfold fnX12_advance_J206
      rw [t_si, t_ret, li_2]
      refine ⟨?_, ?_, (by simp (disch := omega) only [u2_ne, u2_a, u2_k, u2_at]), (by simp (disch := omega) only [u2_ne, u2_a, u2_k, u2_at]), frJ_si hr (by omega) (by omega)⟩
      · rw [← h8]
        simp (disch := omega) only [u2_ne, u2_a, u2_k, u2_at]
      · rw [← h11]
        simp (disch := omega) only [u2_ne, u2_a, u2_k, u2_at]
    unfold fnX12_advance_L144
    rw [t_gi, h8, t_bnd, t_eq (see12 hn (by omega) t), t_bnd, t_eq (in_eq _ _ _ _), t64c.2.2.1, t64c.2.2.2, seeW_rg hB (by omega) (by omega)]
    by_cases c : n ≤ p
    · rw [decide_eq_false (by omega), Bool.false_and, t_brT (by decide), show n - p = 0 by omega]
      exact stop
    · rw [decide_eq_true (by omega), Bool.true_and, show n - p = (n - (p + 1)) + 1 by omega, dgt]
      show T (m_br (bI (isD (tp p)) = 0) _ _) μ _
      cases q : isD (tp p)
      · rw [t_brT (by decide), if_neg (by decide)]
        exact stop
      · obtain ⟨d, d1, d2, d3⟩ := rg_nat (a := 48) (b := 57) q (by omega)
        have ed : (tp p).toInt.toNat - 48 = d - 48 := by
          rw [d3, nI_toInt (by omega)]
          omega
        have sw : seeW tp n p = nI d := by
          rw [seeW_eq hB (by rw [nI_toInt (by omega)]; omega) (by rw [nI_toInt (by omega)]; omega)]
          exact ⟨by omega, d3⟩
        rw [t_brF (by decide), t_gi, h11, t_gi, h8, t_bnd, t_eq (see12 hn (by omega) t), sw, li_10, li_48, li_99999, pk_mul, nI_add, pk_sub (by omega), jmin_nat (by omega) (by omega), t_si, t_gi, show (u2 μ.1 146 11 (nI (min 99999 (10 * min 99999 v + d - 48))), μ.2).1 146 8 = nI p by rw [← h8]; simp (disch := omega) only [u2_ne, u2_a, u2_k, u2_at], nI_1, t_si, if_pos rfl, ed]
        refine t_mono (ih (p + 1) (10 * v + (d - 48)) _ (by omega) (by omega) (frJ_si (frJ_si hr (by omega) (by omega)) (by omega) (by omega)) (by simp (disch := omega) only [u2_ne, u2_a, u2_k, u2_at]) ?_) ?_
        · show u2 (u2 μ.1 146 11 (nI (min 99999 (10 * min 99999 v + d - 48)))) 146 8 (nI (p + 1)) 146 11 = _
          rw [u2_k (by omega), u2_at]
          congr 1
          omega
        · rintro _ μ' ⟨a1, a2, a3, a4, a5⟩
          refine ⟨a1, a2, a3, ?_, a5⟩
          rw [a4]
          simp (disch := omega) only [u2_ne, u2_a, u2_k, u2_at]
