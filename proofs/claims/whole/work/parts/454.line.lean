/-! ===== READING: a line, without machine, and the component's ===== -/
section
variable (tp : Nat → Int32) (n : Nat) (w : Nat → Nat)
def waS (σ : Nat × Option (Nat × Nat)) : Nat × Option (Nat × Nat) := prS tp n 2 1 21 (prS tp n 1 2 13 (adS tp n σ))
def waW (σ : Nat × Option (Nat × Nat)) : Nat → Nat := up (up w 1 (prV tp n 1 2 13 (adS tp n σ))) 2 (prV tp n 2 1 21 (prS tp n 1 2 13 (adS tp n σ)))
def plW (σ : Nat × Option (Nat × Nat)) : Nat → Nat := up (up w 8 1) 6 (nuV tp n 1 10 (adS tp n σ))
/-- the told part of a line, and the world behind it -/
def bdS (σ : Nat × Option (Nat × Nat)) : Nat × Option (Nat × Nat) := if w 0 = 0 then (if isW tp n 0 σ.1 = true then waS tp n σ else rfS tp n 1 σ) else if isW tp n 0 σ.1 = true then rfS tp n 1 σ else if isW tp n 3 σ.1 = true then (if w 3 < 24 then s8 tp n w σ else rfS tp n 3 σ) else if isW tp n 8 σ.1 = true then (if w 4 < 8 then p8 tp n w σ else rfS tp n 3 σ) else if isW tp n 15 σ.1 = true then (if w 8 = 0 then nuS tp n 1 10 (adS tp n σ) else rfS tp n 2 σ) else rfS tp n 1 σ
def bdW (σ : Nat × Option (Nat × Nat)) : Nat → Nat := if w 0 = 0 then waW tp n w σ else if isW tp n 3 σ.1 = true then stW tp n w σ else if isW tp n 8 σ.1 = true then peW tp n w σ else plW tp n w σ
def lnS (τ : Nat × Option (Nat × Nat)) : Nat × Option (Nat × Nat) := if τ.2 = none then (if aKd tp n τ.1 = 3 then adS tp n τ else rfS tp n 1 τ) else τ
end
def FrBd (μ0 μ : sm_Mem) : Prop := (∀ k, (k = 0 ∨ k = 3 ∨ k = 4) → μ.1 2 k = μ0.1 2 k) ∧ (∀ a, (a < 2 ∨ 13 ≤ a) → μ.1 a = μ0.1 a) ∧ μ.2 = μ0.2
theorem frBd_rf (μ : sm_Mem) : FrBd μ μ := ⟨fun _ _ => rfl, fun _ _ => rfl, rfl⟩
theorem frBd_tr {μ μ1 μ2 : sm_Mem} (h : FrBd μ μ1) (h' : FrBd μ1 μ2) : FrBd μ μ2 := ⟨fun k q => (h'.1 k q).trans (h.1 k q), fun a q => (h'.2.1 a q).trans (h.2.1 a q), h'.2.2.trans h.2.2⟩
theorem frG_Bd {μ μ1 : sm_Mem} (h : FrG μ μ1) : FrBd μ μ1 := ⟨fun k q => h.1 k (by omega), fun a q => h.2.1 a (by omega), h.2.2⟩
theorem frBd_w {μ0 μ : sm_Mem} {a k : Nat} {x : Int32} (h : FrBd μ0 μ) (ha : 3 ≤ a) (ha2 : a < 13) : FrBd μ0 (u2 μ.1 a k x, μ.2) := by
  refine ⟨fun j q => ?_, fun b q => ?_, h.2.2⟩
  · show u2 μ.1 a k x 2 j = _
    rw [u2_ne (show 2 ≠ a by omega)]
    exact h.1 j q
  · show u2 μ.1 a k x b = _
    rw [u2_ne (show b ≠ a by omega)]
    exact h.2.1 b q
/-- the reader's world is the one told so far -/
def RW (z : Nat → Nat) (μ : sm_Mem) : Prop := RH 3 z μ ∧ μ.1 2 9 = nI (z 5) ∧ μ.1 2 10 = nI (z 8)
def Bd6 (tp : Nat → Int32) (n : Nat) (τ : Nat × Option (Nat × Nat)) (z : Nat → Nat) (μ0 μ : sm_Mem) : Prop := C6 tp n τ μ ∧ (τ.2 = none → RW z μ) ∧ FrBd μ0 μ
theorem rw_G {z : Nat → Nat} {μ μ1 : sm_Mem} (h : RW z μ) (hf : FrG μ μ1) : RW z μ1 := ⟨rh_fr (fun a q1 q2 => hf.2.1 a (by omega)) h.1, (hf.1 9 (by omega)).trans h.2.1, (hf.1 10 (by omega)).trans h.2.2⟩
theorem rh_set {z : Nat → Nat} {μ : sm_Mem} {i k v : Nat} (h : RH 3 z μ) (hk : (i = k ∧ k < 3) ∨ (i = 6 ∧ k = 3)) : RH 3 (up z i v) (u2 μ.1 3 k (nI v), μ.2) := by
  obtain ⟨⟨r0, r1, r2, r3, r4, r5⟩, h2, h3, h4, h5⟩ := h
  have ne : ∀ a, a ≠ 3 → (u2 μ.1 3 k (nI v), μ.2).1 a = μ.1 a := by
    intro a ha
    show u2 μ.1 3 k (nI v) a = μ.1 a
    rw [u2_ne ha]
  have k3 : ∀ j, j ≠ k → (u2 μ.1 3 k (nI v), μ.2).1 3 j = μ.1 3 j := by
    intro j hj
    show u2 μ.1 3 k (nI v) 3 j = μ.1 3 j
    rw [u2_k hj]
  have ka : (u2 μ.1 3 k (nI v), μ.2).1 3 k = nI v := by
    show u2 μ.1 3 k (nI v) 3 k = nI v
    rw [u2_at]
  have hw : ∀ j, 6 < j → up z i v j = z j := fun j hj => up_ne (by omega)
  have h34 : up z i v 3 = z 3 ∧ up z i v 4 = z 4 := ⟨up_ne (by omega), up_ne (by omega)⟩
  refine ⟨⟨?_, ?_, ?_, ?_, ?_, ?_⟩, ?_, ?_, ?_, ?_⟩
  · by_cases c : k = 0
    · rw [show i = 0 by omega, up_at]
      subst c
      exact ka
    · rw [up_ne (by omega), k3 0 (by omega)]
      exact r0
  · by_cases c : k = 1
    · rw [show i = 1 by omega, up_at]
      subst c
      exact ka
    · rw [up_ne (by omega), k3 1 (by omega)]
      exact r1
  · by_cases c : k = 2
    · rw [show i = 2 by omega, up_at]
      subst c
      exact ka
    · rw [up_ne (by omega), k3 2 (by omega)]
      exact r2
  · by_cases c : k = 3
    · rw [show i = 6 by omega, up_at]
      subst c
      exact ka
    · rw [up_ne (by omega), k3 3 (by omega)]
      exact r3
  · rw [h34.1, k3 4 (by omega)]
    exact r4
  · rw [h34.2, k3 5 (by omega)]
    exact r5
  · intro p hp
    rw [k3 6 (by omega), h34.2, hw _ (by omega)]
    exact h2 p hp
  · intro p hp
    rw [k3 7 (by omega), h34.2, hw _ (by omega)]
    exact h3 p hp
  · intro s hs
    rw [h34.1] at hs
    rw [ne _ (by omega), ne _ (by omega), ne _ (by omega), ne _ (by omega), ne _ (by omega), hw _ (by omega), hw _ (by omega), hw _ (by omega), hw _ (by omega), hw _ (by omega)]
    exact h4 s hs
  · intro p hp
    rw [h34.2] at hp
    rw [ne _ (by omega), ne _ (by omega), ne _ (by omega), ne _ (by omega), hw _ (by omega), hw _ (by omega), hw _ (by omega), hw _ (by omega)]
    exact h5 p hp
theorem rw_set {z : Nat → Nat} {μ : sm_Mem} {i k v : Nat} (h : RW z μ) (hk : (i = k ∧ k < 3) ∨ (i = 6 ∧ k = 3)) : RW (up z i v) (u2 μ.1 3 k (nI v), μ.2) := by
  refine ⟨rh_set h.1 hk, ?_, ?_⟩
  · rw [up_ne (by omega)]
    show u2 μ.1 3 k (nI v) 2 9 = _
    rw [u2_ne (show 2 ≠ 3 by omega)]
    exact h.2.1
  · rw [up_ne (by omega)]
    show u2 μ.1 3 k (nI v) 2 10 = _
    rw [u2_ne (show 2 ≠ 3 by omega)]
    exact h.2.2
section
variable {tp : Nat → Int32} {n : Nat} {w z : Nat → Nat} {σ τ : Nat × Option (Nat × Nat)} {μ0 μ : sm_Mem}
theorem line118_6 (hn : n ≤ 1600) (h : C6 tp n τ μ) (hf : FrBd μ0 μ) (hR : τ.2 = none → RW z μ) : T (fnX6_readLine_J118 2) μ (fun _ μ' => (τ.2 = none → Bd6 tp n (adS tp n τ) (up z 0 (z 0 + 1)) μ0 μ') ∧ (τ.2 ≠ none → Bd6 tp n τ (up z 0 (z 0 + 1)) μ0 μ')) := by
  unfold fnX6_readLine_J118
  rw [t_gi]
  by_cases q : τ.2 = none
  · rw [t_brT ((fl6_0 h.2.2.2).mpr q), t_bnd]
    refine t_mono (adv6C hn h) ?_
    rintro _ μ1 ⟨c1, f1⟩
    have R1 := rw_G (hR q) f1
    rw [lk_2_0, t_gi, R1.1.1.1, nI_1, t_si, t_ret]
    refine ⟨fun _ => ⟨c6_w c1 (by omega), fun _ => rw_set R1 (i := 0) (by omega), frBd_w (frBd_tr hf (frG_Bd f1)) (by omega) (by omega)⟩, fun z => absurd q z⟩
  · rw [t_brF (fun z => q ((fl6_0 h.2.2.2).mp z)), t_ret]
    exact ⟨fun z => absurd z q, fun _ => ⟨h, fun z => absurd z q, hf⟩⟩
theorem line98_6 (hn : n ≤ 1600) (h : Bd6 tp n τ z μ0 μ) : T (fnX6_readLine_J98 2) μ (fun _ μ' => Bd6 tp n (lnS tp n τ) (up z 0 (z 0 + 1)) μ0 μ') := by
  obtain ⟨hc, hR, hf⟩ := h
  have hl := adv_le (tp := tp) hc.2.1
  unfold fnX6_readLine_J98
  rw [t_gi]
  by_cases q : τ.2 = none
  · rw [t_brT ((fl6_0 hc.2.2.2).mpr q), t_gi, hc.2.2.1.2.2.1]
    by_cases c : aKd tp n τ.1 = 3
    · rw [t_brT (by rw [c]; rfl)]
      refine t_mono (line118_6 hn hc hf hR) ?_
      rintro _ μ1 ⟨h1, _⟩
      rw [show lnS tp n τ = adS tp n τ by unfold lnS; rw [if_pos q, if_pos c]]
      exact h1 q
    · rw [t_brF (show ¬ nI (aKd tp n τ.1) = (3 : Int32) from fun z => c ((nI_eq (b := 3) (by omega) (by omega)).mp z)), li_1, t_bnd]
      refine t_mono (ref6C hn (by omega) (by omega) hc) ?_
      rintro _ μ1 ⟨c1, f1⟩
      have hs : (rfS tp n 1 τ).2 ≠ none := by
        rw [rfS_none q]
        exact fun z => (by cases z)
      refine t_mono (line118_6 (z := z) hn c1 (frBd_tr hf (frG_Bd f1)) (fun z => absurd z hs)) ?_
      rintro _ μ2 ⟨_, h2⟩
      rw [show lnS tp n τ = rfS tp n 1 τ by unfold lnS; rw [if_pos q, if_neg c]]
      exact h2 hs
  · rw [t_brF (fun z => q ((fl6_0 hc.2.2.2).mp z))]
    refine t_mono (line118_6 hn hc hf hR) ?_
    rintro _ μ1 ⟨_, h1⟩
    rw [show lnS tp n τ = τ by unfold lnS; rw [if_neg q]]
    exact h1 q
theorem water6 (hn : n ≤ 1600) (hc : C6 tp n σ μ) (hR : RW w μ) : T (fnX6_readWater 2) μ (fun _ μ' => Bd6 tp n (waS tp n σ) (waW tp n w σ) μ μ') := by
  unfold fnX6_readWater
  rw [t_bnd]
  refine t_mono (adv6C hn hc) ?_
  rintro _ μ1 ⟨c1, f1⟩
  rw [t_bnd]
  refine t_mono (pair6C (lo := 2) (hb := 13) hn 1 (by omega) (hiN (k := 12) (by omega)) (by omega) c1) ?_
  rintro x μ2 ⟨rfl, c2, f2⟩
  have R2 := rw_set (i := 1) (k := 1) (v := prV tp n 1 2 13 (adS tp n σ)) (rw_G (rw_G hR f1) f2) (by omega)
  have F2 := frBd_w (k := 1) (x := nI (prV tp n 1 2 13 (adS tp n σ))) (frBd_tr (frG_Bd f1) (frG_Bd f2)) (show 3 ≤ 3 by omega) (by omega)
  have C2 := c6_w (a := 3) (k := 1) (x := nI (prV tp n 1 2 13 (adS tp n σ))) c2 (by omega)
  rw [lk_2_0, t_si]
  show T _ (u2 μ2.1 3 1 (nI (prV tp n 1 2 13 (adS tp n σ))), μ2.2) _
  revert R2 F2 C2
  generalize (u2 μ2.1 3 1 (nI (prV tp n 1 2 13 (adS tp n σ))), μ2.2) = μ3
  intro R2 F2 C2
  rw [t_bnd]
  refine t_mono (pair6C (lo := 1) (hb := 21) hn 2 (by omega) (hiN (k := 20) (by omega)) (by omega) C2) ?_
  rintro x μ4 ⟨rfl, c4, f4⟩
  rw [t_si, t_ret]
  exact ⟨c6_w c4 (by omega), fun _ => rw_set (i := 2) (rw_G R2 f4) (by omega), frBd_w (frBd_tr F2 (frG_Bd f4)) (by omega) (by omega)⟩
theorem plank12_6 (hn : n ≤ 1600) {τ : Nat × Option (Nat × Nat)} (hc : C6 tp n τ μ) (hf : FrBd μ0 μ) (hR : τ.2 = none → RW w μ) : T (fnX6_readPlank_J12 2) μ (fun _ μ' => Bd6 tp n (prS tp n 15 1 10 τ) (up (up w 8 1) 6 (prV tp n 15 1 10 τ)) μ0 μ') := by
  unfold fnX6_readPlank_J12
  rw [t_si]
  have C1 : C6 tp n τ (u2 μ.1 2 10 1, μ.2) := by
    obtain ⟨⟨t1, t2, t3⟩, c2, ⟨x1, x2, x3, x4⟩, c4⟩ := hc
    have k2 : ∀ k, k ≠ 10 → (u2 μ.1 2 10 1, μ.2).1 2 k = μ.1 2 k := by
      intro k hk
      show u2 μ.1 2 10 1 2 k = μ.1 2 k
      rw [u2_k hk]
    refine ⟨⟨t1, (k2 4 (by omega)).trans t2, fun k hk => ?_⟩, c2, ⟨(k2 5 (by omega)).trans x1, (k2 6 (by omega)).trans x2, (k2 7 (by omega)).trans x3, fun z => (k2 8 (by omega)).trans (x4 z)⟩, ?_⟩
    · show u2 μ.1 2 10 1 1 k = _
      rw [u2_ne (show 1 ≠ 2 by omega)]
      exact t3 k hk
    · revert c4
      unfold FL6
      rw [k2 1 (by omega), k2 2 (by omega)]
      exact id
  have F1 : FrBd μ0 (u2 μ.1 2 10 1, μ.2) := by
    refine ⟨fun k q => ?_, fun a q => ?_, hf.2.2⟩
    · show u2 μ.1 2 10 1 2 k = _
      rw [u2_k (by omega)]
      exact hf.1 k q
    · show u2 μ.1 2 10 1 a = _
      rw [u2_ne (show a ≠ 2 by omega)]
      exact hf.2.1 a q
  have R1 : τ.2 = none → RW (up w 8 1) (u2 μ.1 2 10 1, μ.2) := by
    intro q
    have R := hR q
    refine ⟨?_, ?_, ?_⟩
    · have H : RH 3 w (u2 μ.1 2 10 1, μ.2) := rh_fr (μ := μ) (fun a q1 q2 => (by show u2 μ.1 2 10 1 a = _; rw [u2_ne (show a ≠ 2 by omega)])) R.1
      unfold RH at H ⊢
      rw [up_ne (by omega), up_ne (by omega), up_ne (by omega), up_ne (by omega), up_ne (by omega), up_ne (by omega)]
      refine ⟨H.1, fun p hp => ?_, fun p hp => ?_, fun s hs => ?_, fun p hp => ?_⟩
      · rw [up_ne (by omega)]
        exact H.2.1 p hp
      · rw [up_ne (by omega)]
        exact H.2.2.1 p hp
      · rw [up_ne (by omega), up_ne (by omega), up_ne (by omega), up_ne (by omega), up_ne (by omega)]
        exact H.2.2.2.1 s hs
      · rw [up_ne (by omega), up_ne (by omega), up_ne (by omega), up_ne (by omega)]
        exact H.2.2.2.2 p hp
    · rw [up_ne (by omega)]
      show u2 μ.1 2 10 1 2 9 = _
      rw [u2_k (by omega)]
      exact R.2.1
    · rw [up_at]
      show u2 μ.1 2 10 1 2 10 = _
      rw [u2_at]
      rfl
  show T _ (u2 μ.1 2 10 1, μ.2) _
  revert C1 F1 R1
  generalize (u2 μ.1 2 10 1, μ.2) = μ1
  intro C1 F1 R1
  rw [t_bnd]
  refine t_mono (pair6C (lo := 1) (hb := 10) hn 15 (by omega) (hiN (k := 9) (by omega)) (by omega) C1) ?_
  rintro x μ2 ⟨rfl, c2, f2⟩
  rw [lk_2_0, t_si, t_ret]
  refine ⟨c6_w c2 (by omega), fun q => ?_, frBd_w (frBd_tr F1 (frG_Bd f2)) (by omega) (by omega)⟩
  have q1 : τ.2 = none := by
    unfold prS at q
    exact (ndS_none (nuV_lt q).2.2.1).1
  exact rw_set (i := 6) (rw_G (R1 q1) f2) (by omega)
theorem plank6 (hn : n ≤ 1600) (h8 : w 8 ≤ 1) (hq : σ.2 = none) (hw : isW tp n 15 σ.1 = true) (hc : C6 tp n σ μ) (hR : RW w μ) : T (fnX6_readPlank 2) μ (fun _ μ' => Bd6 tp n (if w 8 = 0 then nuS tp n 1 10 (adS tp n σ) else rfS tp n 2 σ) (plW tp n w σ) μ μ') := by
  have en : ndS tp n 15 σ = adS tp n σ := by
    unfold ndS flS
    rw [decide_eq_true hq, hw, Bool.and_self, if_pos rfl]
  unfold fnX6_readPlank
  rw [t_gi, hR.2.2]
  by_cases c : w 8 = 0
  · rw [t_brT (by rw [c]; rfl), if_pos c]
    refine t_mono (plank12_6 hn hc (frBd_rf μ) (fun _ => hR)) ?_
    intro _ μ1 h
    unfold prS prV at h
    rw [en] at h
    exact h
  · rw [t_brF (show ¬ nI (w 8) = (0 : Int32) from fun z => c ((nI_eq (b := 0) (by omega) (by omega)).mp z)), if_neg c, li_2, t_bnd]
    refine t_mono (ref6C hn (by omega) (by omega) hc) ?_
    rintro _ μ1 ⟨c1, f1⟩
    have hs : (rfS tp n 2 σ).2 ≠ none := by
      rw [rfS_none hq]
      exact fun z => (by cases z)
    refine t_mono (plank12_6 (w := w) hn c1 (frG_Bd f1) (fun z => absurd z hs)) ?_
    intro _ μ2 h
    rw [(pr_some hs).1] at h
    exact ⟨h.1, fun z => absurd z hs, h.2.2⟩
end
