/-! ===== READING: all lines ===== -/
def alS (tp : Nat → Int32) (n : Nat) : Nat → (Nat → Nat) → Nat × Option (Nat × Nat) → (Nat → Nat) × (Nat × Option (Nat × Nat))
  | 0, w, σ => (w, σ)
  | f + 1, w, σ => if σ.2 = none ∧ aKd tp n σ.1 ≠ 0 then alS tp n f (up (bdW tp n w σ) 0 (bdW tp n w σ 0 + 1)) (lnS tp n (bdS tp n w σ)) else (w, σ)
/-- the empty world -/
def zW (i : Nat) : Nat := if 185 ≤ i ∧ (i - 185) % 7 = 5 then 1 else 0
theorem zW_lo {i : Nat} (h : i < 185) : zW i = 0 := by
  unfold zW
  rw [if_neg (by omega)]
theorem zW_e (i : Nat) : eI i (zW i) = 0 := by
  unfold zW eI
  split
  · rfl
  · rfl
theorem zW_g : LG zW := by
  have z : ∀ i, i < 185 → zW i = 0 := fun i h => zW_lo h
  have z0 := z 0 (by omega)
  have z1 := z 1 (by omega)
  have z2 := z 2 (by omega)
  have z3 := z 3 (by omega)
  have z4 := z 4 (by omega)
  have z5 := z 5 (by omega)
  have z6 := z 6 (by omega)
  have z7 := z 7 (by omega)
  have z8 := z 8 (by omega)
  unfold LG Good
  rw [z0, z1, z2, z3, z4, z5, z6, z7, z8]
  refine ⟨⟨by omega, fun _ => by omega, fun h => by omega, fun s hs => by omega, fun s _ hs => z _ (by omega), by show 0 ≤ 4; omega, fun s t hs => by omega, fun p hp => by omega, fun p hp => by omega, fun p hp => by omega⟩, rfl, fun s hs => ⟨z _ (by omega), z _ (by omega)⟩, fun s _ hs => z _ (by omega), rfl, by omega, fun p hp => by omega⟩
section
variable {tp : Nat → Int32} {n : Nat} {μ0 : sm_Mem}
theorem kd_end {p : Nat} (hn : n ≤ 1600) (hk : 1600 ≤ p) (hp : p ≤ n) : aKd tp n p = 0 := by
  have := adv_le (tp := tp) hp
  by_cases c : aKd tp n p = 0
  · exact c
  · have := this.2.2.2.2 c
    omega
/-- one line: what both sides need -/
theorem line_go {w : Nat → Nat} {σ : Nat × Option (Nat × Nat)} {k : Nat} (hk : k < 1600) (hp : k ≤ σ.1) (hpn : σ.1 ≤ n) (hq : σ.2 = none) (hL : LG w) (h0 : w 0 = k) : (lnS tp n (bdS tp n w σ)).2 = none → k + 1 ≤ (lnS tp n (bdS tp n w σ)).1 ∧ LG (up (bdW tp n w σ) 0 (bdW tp n w σ 0 + 1)) ∧ up (bdW tp n w σ) 0 (bdW tp n w σ 0 + 1) 0 = k + 1 := by
  intro h
  obtain ⟨m1, m2, m3⟩ := line_mo hpn hq h
  obtain ⟨l1, l2⟩ := lg_line hL (by omega) m1
  refine ⟨by omega, l1, ?_⟩
  rw [up_at, l2, h0]
theorem all6_L (hn : n ≤ 1600) : ∀ (f k F : Nat) (w : Nat → Nat) (σ : Nat × Option (Nat × Nat)) (μ : sm_Mem), k + f = 1600 → f < F → (σ.2 = none → k ≤ σ.1) → C6 tp n σ μ → (σ.2 = none → RW w μ ∧ LG w ∧ w 0 = k) → FrBd μ0 μ → T (fnX6_readAll_L53 F 2 (nI k)) μ (fun _ μ' => C6 tp n (alS tp n f w σ).2 μ' ∧ ((alS tp n f w σ).2.2 = none → RW (alS tp n f w σ).1 μ' ∧ LG (alS tp n f w σ).1) ∧ FrBd μ0 μ') := by
  intro f
  induction f with
  | zero =>
    intro k F w σ μ hk hF hp hc hR hf
    obtain ⟨F, rfl⟩ : ∃ G, F = G + 1 := ⟨F - 1, by omega⟩
    unfold fnX6_readAll_L53
    rw [t_brT (show (1600 : Int32) ≤ nI k from nI_le (a := 1600) (by omega) (by omega)), t_ret]
    exact ⟨hc, fun q => ⟨(hR q).1, (hR q).2.1⟩, hf⟩
  | succ f ih =>
    intro k F w σ μ hk hF hp hc hR hf
    obtain ⟨F, rfl⟩ : ∃ G, F = G + 1 := ⟨F - 1, by omega⟩
    have hl := adv_le (tp := tp) hc.2.1
    unfold fnX6_readAll_L53
    rw [t_brF (show ¬ (1600 : Int32) ≤ nI k from nI_ge (b := 1600) (by omega) (by omega)), t_gi]
    unfold alS
    by_cases q : σ.2 = none
    · rw [t_brT ((fl6_0 hc.2.2.2).mpr q), t_gi, hc.2.2.1.2.2.1]
      by_cases c : aKd tp n σ.1 = 0
      · rw [t_brT (by rw [c]; rfl), t_ret, if_neg (fun z => z.2 c)]
        exact ⟨hc, fun q => ⟨(hR q).1, (hR q).2.1⟩, hf⟩
      · obtain ⟨r1, r2, r3⟩ := hR q
        rw [t_brF (show ¬ nI (aKd tp n σ.1) = (0 : Int32) from fun z => c ((nI_eq (b := 0) (by omega) (by omega)).mp z)), if_pos ⟨q, c⟩, t_bnd]
        refine t_mono (line6_T hn (lg_lb r2) q hc r1) ?_
        intro _ μ1 hB
        rw [nI_1]
        have g := line_go (tp := tp) (n := n) (show k < 1600 by omega) (hp q) hc.2.1 q r2 r3
        exact ih (k + 1) F _ _ μ1 (by omega) (by omega) (fun z => (g z).1) hB.1 (fun z => ⟨hB.2.1 z, (g z).2⟩) (frBd_tr hf hB.2.2)
    · rw [t_brF (fun z => q ((fl6_0 hc.2.2.2).mp z)), t_ret, if_neg (fun z => q z.1)]
      exact ⟨hc, fun z => absurd z q, hf⟩
theorem all12_L (hn : n ≤ 1600) (hB : Byt tp n) {Q : Int32 → sm_Mem → Prop} : ∀ (f k F : Nat) (w : Nat → Nat) (σ : Nat × Option (Nat × Nat)) (μ : sm_Mem), k + f = 1600 → f < F → (σ.2 = none → k ≤ σ.1) → Bd12 tp n σ w μ0 μ → (σ.2 = none → LG w ∧ w 0 = k) → (∀ μ', Bd12 tp n (alS tp n f w σ).2 (alS tp n f w σ).1 μ0 μ' → T (fnX12_river_J75 146) μ' Q) → T (fnX12_river_L54 F 146) μ Q := by
  intro f
  induction f with
  | zero =>
    intro k F w σ μ hk hF hp hb hL ex
    obtain ⟨F, rfl⟩ : ∃ G, F = G + 1 := ⟨F - 1, by omega⟩
    unfold fnX12_river_L54
    rw [t_bnd, t_eq (gd12 hb.1.2.2.2)]
    by_cases q : σ.2 = none
    · rw [decide_eq_true q, t_brF (by decide), t_gi, hb.1.2.2.1.2.2.1, kd_end hn (show 1600 ≤ σ.1 by have := hp q; omega) hb.1.2.1, t_brT (show nI 0 = (0 : Int32) from rfl)]
      exact ex μ hb
    · rw [decide_eq_false q, t_brT (by decide)]
      exact ex μ hb
  | succ f ih =>
    intro k F w σ μ hk hF hp hb hL ex
    obtain ⟨F, rfl⟩ : ∃ G, F = G + 1 := ⟨F - 1, by omega⟩
    have hl := adv_le (tp := tp) hb.1.2.1
    unfold alS at ex
    unfold fnX12_river_L54
    rw [t_bnd, t_eq (gd12 hb.1.2.2.2)]
    by_cases q : σ.2 = none
    · rw [decide_eq_true q, t_brF (by decide), t_gi, hb.1.2.2.1.2.2.1]
      by_cases c : aKd tp n σ.1 = 0
      · rw [if_neg (fun z => z.2 c)] at ex
        rw [t_brT (by rw [c]; rfl)]
        exact ex μ hb
      · obtain ⟨r2, r3⟩ := hL q
        rw [if_pos ⟨q, c⟩] at ex
        rw [t_brF (show ¬ nI (aKd tp n σ.1) = (0 : Int32) from fun z => c ((nI_eq (b := 0) (by omega) (by omega)).mp z)), t_bnd]
        refine t_mono (line12_T hn hB (lg_lb r2) q (bd_st hb q)) ?_
        intro _ μ1 hB1
        have g := line_go (tp := tp) (n := n) (show k < 1600 by omega) (hp q) hb.1.2.1 q r2 r3
        exact ih (k + 1) F _ _ μ1 (by omega) (by omega) (fun z => (g z).1) hB1 (fun z => (g z).2) ex
    · rw [if_neg (fun z => q z.1)] at ex
      rw [decide_eq_false q, t_brT (by decide)]
      exact ex μ hb
end
/-- the whole text read: the world told, the state at the end -/
def allT (tp : Nat → Int32) (n : Nat) : (Nat → Nat) × (Nat × Option (Nat × Nat)) := alS tp n 1600 zW (0, none)
theorem rh_zW {μ : sm_Mem} (h : ∀ k, k < 8 → μ.1 3 k = 0) : RH 3 zW μ := by
  have z : ∀ i, i < 185 → zW i = 0 := fun i h => zW_lo h
  unfold RH
  rw [z 0 (by omega), z 1 (by omega), z 2 (by omega), z 3 (by omega), z 4 (by omega), z 6 (by omega), h 0 (by omega), h 1 (by omega), h 2 (by omega), h 3 (by omega), h 4 (by omega), h 5 (by omega), h 6 (by omega), h 7 (by omega)]
  refine ⟨⟨rfl, rfl, rfl, rfl, rfl, rfl⟩, fun p hp => ?_, fun p hp => ?_, fun s hs => by omega, fun p hp => by omega⟩
  · rw [b_0, decide_eq_false (by omega)]
  · rw [b_0, decide_eq_false (by omega)]
theorem readAll_T {tp : Nat → Int32} {n : Nat} {μ : sm_Mem} (hn : n ≤ 1600) (ht : ∀ k, k < n → μ.1 1 k = tp k) : T (fnX6_readAll 2 1 (nI n)) μ (fun _ μ' => C6 tp n (allT tp n).2 μ' ∧ ((allT tp n).2.2 = none → RW (allT tp n).1 μ' ∧ LG (allT tp n).1) ∧ (∀ a, (a < 2 ∨ 13 ≤ a) → μ'.1 a = μ.1 a) ∧ μ'.2.1 = μ.2.1) := by
  have H : ∀ μi : sm_Mem, μi.2.1 = μ.2.1 → μi.2.2 = 1 → μi.1 2 4 = nI n → μi.1 2 1 = 0 → μi.1 2 2 = -1 → μi.1 2 6 = 0 → μi.1 2 9 = 0 → μi.1 2 10 = 0 → (∀ k, k < 8 → μi.1 3 k = 0) → (∀ a, (a < 2 ∨ 13 ≤ a) → μi.1 a = μ.1 a) → T (m_bnd (fnX6_advance 2) fun _ => fnX6_readAll_L53 4096 2 (0 : Int32)) μi (fun _ μ' => C6 tp n (allT tp n).2 μ' ∧ ((allT tp n).2.2 = none → RW (allT tp n).1 μ' ∧ LG (allT tp n).1) ∧ (∀ a, (a < 2 ∨ 13 ≤ a) → μ'.1 a = μ.1 a) ∧ μ'.2.1 = μ.2.1) := by
    intro μi i21 i22 i4 i1 i2 i6 i9 i10 i3 ia
    have hT : Tap6 tp n μi := ⟨i22, i4, fun k hk => by rw [ia 1 (by omega)]; exact ht k hk⟩
    rw [t_bnd]
    refine t_mono (adv6_T (p := 0) hn (by omega) hT i6) ?_
    rintro _ μ1 ⟨a1, a2⟩
    have hc : C6 tp n (0, none) μ1 := ⟨tap6_fr a2 hT, by show 0 ≤ n; omega, a1, fl6_K a2 ⟨i1, i2⟩⟩
    have hR : RW zW μ1 := by
      have hg := frK_G a2
      refine rw_G ⟨rh_zW i3, ?_, ?_⟩ hg
      · rw [zW_lo (by omega)]
        exact i9
      · rw [zW_lo (by omega)]
        exact i10
    refine t_mono (all6_L (μ0 := μ1) hn 1600 0 4096 zW (0, none) μ1 (by omega) (by omega) (fun _ => Nat.zero_le _) hc (fun _ => ⟨hR, zW_g, zW_lo (by omega)⟩) (frBd_rf μ1)) ?_
    rintro _ μ2 ⟨b1, b2, b3⟩
    refine ⟨b1, b2, fun a ha => ?_, ?_⟩
    · rw [b3.2.1 a ha, a2.2.1 a (by omega)]
      exact ia a ha
    · rw [b3.2.2, a2.2.2]
      exact i21
  have ej : jmin (nI n) (nI (ln 1)) = nI n := by
    rw [show ln 1 = 1600 from rfl, jmin_nat (by omega) (by omega), Nat.min_eq_left hn]
  unfold fnX6_readAll fnX7_clear
  rw [ej, lk_2_0]
  simp only [t_st, t_si, t_bnd, t_ret]
  rw [← t_bnd (f := fnX6_advance 2) (g := fun _ => fnX6_readAll_L53 4096 2 (0 : Int32))]
  refine H _ rfl rfl (by simp (disch := omega) only [u2_ne, u2_a, u2_k, u2_at]) (by simp (disch := omega) only [u2_ne, u2_a, u2_k, u2_at]) (by simp (disch := omega) only [u2_ne, u2_a, u2_k, u2_at]) (by simp (disch := omega) only [u2_ne, u2_a, u2_k, u2_at]) (by simp (disch := omega) only [u2_ne, u2_a, u2_k, u2_at]) (by simp (disch := omega) only [u2_ne, u2_a, u2_k, u2_at]) (fun k hk => ?_) (fun a ha => (by simp (disch := omega) only [u2_ne, u2_a, u2_k, u2_at]))
  have hk : k = 0 ∨ k = 1 ∨ k = 2 ∨ k = 3 ∨ k = 4 ∨ k = 5 ∨ k = 6 ∨ k = 7 := by omega
  rcases hk with rfl | rfl | rfl | rfl | rfl | rfl | rfl | rfl <;> simp (disch := omega) only [u2_ne, u2_a, u2_k, u2_at]
