/-! ===== seek ===== -/
theorem opn_lt {w : Nat → Nat} {wt x : Nat} (h : opn w wt x = true) : x < w 3 := by
  unfold opn at h
  exact (of_decide_eq_true h).1
theorem opn_mk {w : Nat → Nat} (hG : Good w) (wt : Nat) : ∀ i, i < 32 → bt (mk (opn w wt) (w 3)) i = opn w wt i := by
  intro i hi
  rw [opn_hom hG wt i hi]
  cases q : opn w wt i
  · simp
  · simp [opn_lt q]
/-- what a search leaves -/
def SeekP (w : Nat → Nat) (r wt way bank : Nat) (x : Int32) (μ μ' : sm_Mem) : Prop := (match findW w r wt way bank with
    | none => x = mI 1
    | some l => x = nI l.length ∧ l.length ≤ 24 ∧ μ'.1 36 1 = nI l.length ∧ (∀ i, i < l.length → μ'.1 37 i = nI (l.getD i 0)) ∧ (∀ x, x ∈ l → x < w 3 ∧ opn w wt x = true) ∧ l.Nodup) ∧ (∀ a, (a < 36 ∨ 41 ≤ a) → μ'.1 a = μ.1 a) ∧ μ'.2 = μ.2
theorem seek_J122 {c r wt way bank : Nat} {w : Nat → Nat} (hc : isSc c) (hG : Good w) (hr : 1 ≤ r) (hr9 : r ≤ 9) (hrw : r < w 1) (hw : way < 4) {bm gm0 : Int32} (hbm : ∀ i, i < 32 → bt bm i = (decide (i < w 3) && stp w bank i r)) (hgm : ∀ i, i < 32 → bt gm0 i = (decide (i < w 3) && stp w i (197 - bank) r)) {μ0 μ : sm_Mem} (hR : RH 14 w μ) (hS : SH c w μ) (hL : LKS w μ) (hz : μ.1 36 1 = nI 0) (h40 : way = 1 → ∀ q, q < w 4 → μ.1 40 (w (185 + 7 * q)) = mk (rch w (opn w 1) (w (185 + 7 * q))) (w 3)) (ho : ∀ a, (a < 36 ∨ 41 ≤ a) → μ.1 a = μ0.1 a) (h2 : μ.2 = μ0.2) :
    T (fnX10_seek_J122 36 c (nI r) (nI way) (mk (opn w wt) (w 3)) bm gm0) μ (fun x μ' => SeekP w r wt way bank x μ0 μ') := by
  have n := hG.1
  have hcc : c + 4 ≤ 36 ∨ 41 ≤ c := by
    unfold isSc at hc
    simp only [List.mem_cons, List.not_mem_nil, or_false] at hc
    omega
  have hgo : ∀ i, i < 32 → bt (gm0 &&& mk (opn w wt) (w 3)) i = (opn w wt i && stp w i (197 - bank) r) := by
    intro i hi
    rw [b_and, hgm i hi, opn_mk hG wt i hi]
    cases q : opn w wt i
    · simp
    · simp [opn_lt q]
  have hbo : ∀ i, i < 32 → bt (bm &&& mk (opn w wt) (w 3)) i = (opn w wt i && stp w bank i r) := by
    intro i hi
    rw [b_and, hbm i hi, opn_mk hG wt i hi]
    cases q : opn w wt i
    · simp
    · simp [opn_lt q]
  have hcb : ∀ x, x < w 3 → (32 * costW w way x + 1) ≤ 321 := by
    intro x hx
    have := (cost_rng hG (way := way) (wt := 1) hx (by omega)).1
    omega
  unfold fnX10_seek_J122
  rw [t_bnd]
  refine t_mono (putCosts_T hc hG hw hR hS (by omega) h40) ?_
  rintro - μ1 ⟨a1, a2, a3⟩
  rw [t_bnd]
  refine t_mono (spread_T hG (op := opn w wt) (goal := fun s => opn w wt s && stp w s (197 - bank) r) (bg := fun s => opn w wt s && stp w bank s r) (c := fun s => 32 * costW w way s + 1) hr hr9 (bm := bm) (fun x h => opn_lt h) (fun x hx => by
    show (opn w wt x && stp w bank x r) = _
    rw [hbm x (by omega), decide_eq_true hx, Bool.true_and]) (opn_mk hG wt) (fun x h => by
    simp only [Bool.and_eq_true] at h
    exact h.1) hgo hcb (lks_fr (fun a q1 q2 => a1 a (by omega)) hL) a3) ?_
  rintro - μ2 ⟨b1, b2, t', b3, b4⟩
  rw [t_bnd]
  refine t_mono (walk_T hG (op := opn w wt) (goal := fun s => opn w wt s && stp w s (197 - bank) r) (bg := fun s => opn w wt s && stp w bank s r) (c := fun s => 32 * costW w way s + 1) (fun s _ => by show 1 ≤ 32 * costW w way s + 1; omega) hr hr9 (fun x h => opn_lt h) (opn_mk hG wt) (fun x h => by
    simp only [Bool.and_eq_true] at h
    exact h.1) hbo b4 hcb (fun x hx => (b3 x hx).2) (lks_fr (fun a q1 q2 => (b1 a (by omega)).trans (a1 a (by omega))) hL) (fun x hx => by rw [b1 38 (by omega)]; exact a3 x hx) (fun x hx => (b3 x hx).1) (by rw [b1 36 (by omega), a1 36 (by omega)]; exact hz)) ?_
  rintro - μ3 ⟨l, l1, l2, l3, l4, l5, l6⟩
  have fw := findW_row (by omega) l1
  have fr : ∀ a, (a < 36 ∨ 41 ≤ a) → μ3.1 a = μ0.1 a := by
    intro a ha
    rw [l5 a (by omega) (by omega), b1 a (by omega), a1 a (by omega), ho a ha]
  have fl : μ3.2 = μ0.2 := l6.trans (b2.trans (a2.trans h2))
  rw [t_gi, l3]
  by_cases c0 : l = []
  · subst c0
    rw [t_brT (show nI ([] : List Nat).length = (0 : Int32) from rfl), t_ret]
    refine ⟨?_, fr, fl⟩
    rw [fw, if_pos rfl]
    rfl
  · have : l.length ≠ 0 := fun e => c0 (List.length_eq_zero_iff.mp e)
    rw [t_brF (nI_ne0 (by omega) (by omega)), t_gi, l3, t_ret]
    refine ⟨?_, fr, fl⟩
    rw [fw, if_neg c0]
    exact ⟨rfl, l2, l3, l4, isRow_facts (fun s _ => by show 1 ≤ 32 * costW w way s + 1; omega) l1⟩
theorem find_none {w : Nat → Nat} {r wt way bank : Nat} (hr : r < w 1) (h : (∀ s, s < w 3 → (opn w wt s && stp w bank s r) = false) ∨ ∀ s, s < w 3 → (opn w wt s && stp w s (197 - bank) r) = false) : findW w r wt way bank = none := by
  have : IsRow (w 3) (opn w wt) (fun s => opn w wt s && stp w s (197 - bank) r) (fun s => opn w wt s && stp w bank s r) (adw w r) (fun s => 32 * costW w way s + 1) [] := by
    intro s v hs hd
    rcases h with h | h
    · have e : (opn w wt s && stp w bank s r) = true := hs
      rw [h s (dm_s hd).1] at e
      cases e
    · obtain ⟨⟨k, a⟩, -⟩ := hd
      exact no_goal (fun s hs _ => h s hs) k s v a
  rw [findW_row (by omega) this, if_pos rfl]
theorem seek_J83 {c r wt way bank : Nat} {w : Nat → Nat} (hc : isSc c) (hG : Good w) (hr : 1 ≤ r) (hr9 : r ≤ 9) (hrw : r < w 1) (hw : way < 4) {bm gm0 : Int32} (hbm : ∀ i, i < 32 → bt bm i = (decide (i < w 3) && stp w bank i r)) (hgm : ∀ i, i < 32 → bt gm0 i = (decide (i < w 3) && stp w i (197 - bank) r)) {μ0 μ : sm_Mem} (hR : RH 14 w μ) (hS : SH c w μ) (hL : LKS w μ) (hz : μ.1 36 1 = nI 0) (ho : ∀ a, (a < 36 ∨ 41 ≤ a) → μ.1 a = μ0.1 a) (h2 : μ.2 = μ0.2) :
    T (fnX10_seek_J83 36 c (nI r) (nI way) (mk (opn w wt) (w 3)) bm gm0) μ (fun x μ' => SeekP w r wt way bank x μ0 μ') := by
  obtain ⟨k0, -, -, -, -, -, -⟩ := sc_lk hc
  have n := hG.1
  have hcc : c + 4 ≤ 36 ∨ 41 ≤ c := by
    unfold isSc at hc
    simp only [List.mem_cons, List.not_mem_nil, or_false] at hc
    omega
  unfold fnX10_seek_J83
  by_cases c1 : bm &&& mk (opn w wt) (w 3) = 0
  · rw [t_brT c1, t_ret]
    refine ⟨?_, ho, h2⟩
    rw [find_none hrw (Or.inl (fun s hs => ?_))]
    · rfl
    · have := (k_z _).mp c1 s (by omega)
      rw [b_and, hbm s (by omega), opn_mk hG wt s (by omega), decide_eq_true hs, Bool.true_and, Bool.and_comm] at this
      exact this
  rw [t_brF c1]
  by_cases c2 : gm0 &&& mk (opn w wt) (w 3) = 0
  · rw [t_brT c2, t_ret]
    refine ⟨?_, ho, h2⟩
    rw [find_none hrw (Or.inr (fun s hs => ?_))]
    · rfl
    · have := (k_z _).mp c2 s (by omega)
      rw [b_and, hgm s (by omega), opn_mk hG wt s (by omega), decide_eq_true hs, Bool.true_and, Bool.and_comm] at this
      exact this
  rw [t_brF c2]
  by_cases c3 : way = 1
  · rw [t_brT (show nI way = (1 : Int32) by rw [c3]; rfl), li_1, t_bnd, t_eq (openFor_eq hR hS hc hG (show 1 < 100 by omega)), k0, t_bnd]
    refine t_mono (putReached_T hG hR hL) ?_
    rintro - μ1 ⟨a1, a2, a3⟩
    exact seek_J122 hc hG hr hr9 hrw hw hbm hgm (rh_fr (fun a q1 q2 => a1 a (by omega)) hR) (sh_fr (fun a q1 q2 => a1 a (by omega)) hS) (lks_fr (fun a q1 q2 => a1 a (by omega)) hL) (by rw [a1 36 (by omega)]; exact hz) (fun _ => a3) (fun a ha => (a1 a (by omega)).trans (ho a ha)) (a2.trans h2)
  · rw [t_brF (show ¬ nI way = (1 : Int32) by rw [li_1, nI_eq (by omega) (by omega)]; exact c3)]
    exact seek_J122 hc hG hr hr9 hrw hw hbm hgm hR hS hL hz (fun h => absurd h c3) ho h2
theorem seek_T {c r wt way bank : Nat} {w : Nat → Nat} (hc : isSc c) (hG : Good w) (hr : 1 ≤ r) (hr9 : r ≤ 9) (hwt : wt < 100) (hw : way < 4) (hb : bank = 98 ∨ bank = 99) {μ : sm_Mem} (hR : RH 14 w μ) (hS : SH c w μ) (hL : LKS w μ) :
    T (fnX10_seek 36 c (nI r) (nI wt) (nI way) (nI bank)) μ (fun x μ' => SeekP w r wt way bank x μ μ') := by
  obtain ⟨k0, -, -, -, -, -, -⟩ := sc_lk hc
  have n := hG.1
  have gw := good_wide hG
  have e_33 : ln 33 = 10 := rfl
  have e_34 : ln 34 = 10 := rfl
  have hcc : c + 4 ≤ 36 ∨ 41 ≤ c := by
    unfold isSc at hc
    simp only [List.mem_cons, List.not_mem_nil, or_false] at hc
    omega
  have r1 : (u2 μ.1 36 1 (nI 0), μ.2).1 14 1 = nI (w 1) := by
    rw [← hR.1.2.1]
    simp (disch := omega) only [u2_ne, u2_a, u2_k, u2_at]
  unfold fnX10_seek
  rw [t_si, k0, t_gi, li_0, r1]
  by_cases c1 : r < w 1
  · have hR1 : RH 14 w (u2 μ.1 36 1 (nI 0), μ.2) := rh_fr (μ := μ) (fun a h1 h2 => (by simp (disch := omega) only [u2_ne, u2_a, u2_k, u2_at])) hR
    have hS1 : SH c w (u2 μ.1 36 1 (nI 0), μ.2) := sh_fr (μ := μ) (fun a h1 h2 => (by simp (disch := omega) only [u2_ne, u2_a, u2_k, u2_at])) hS
    have hL1 : LKS w (u2 μ.1 36 1 (nI 0), μ.2) := lks_fr (μ := μ) (fun a h1 h2 => (by simp (disch := omega) only [u2_ne, u2_a, u2_k, u2_at])) hL
    have ho : ∀ a, (a < 36 ∨ 41 ≤ a) → (u2 μ.1 36 1 (nI 0), μ.2).1 a = μ.1 a := fun a ha => (by simp (disch := omega) only [u2_ne, u2_a, u2_k, u2_at])
    have hz : (u2 μ.1 36 1 (nI 0), μ.2).1 36 1 = nI 0 := (by simp (disch := omega) only [u2_ne, u2_a, u2_k, u2_at])
    rw [t_brT (nI_lt c1 (by omega)), t_bnd, t_eq (openFor_eq hR1 hS1 hc hG hwt), lk_36_2, lk_32_0, lk_32_1]
    rcases hb with rfl | rfl
    · rw [t_brT (show nI 98 = (98 : Int32) from rfl), t_ai (by omega)]
      unfold fnX10_seek_J53
      rw [t_brT (show nI 98 = (98 : Int32) from rfl), lk_36_2, lk_32_1, t_ai (by omega)]
      exact seek_J83 hc hG hr hr9 c1 hw (fun i hi => (hL1 r hr hr9 i hi).1) (fun i hi => (hL1 r hr hr9 i hi).2.1) hR1 hS1 hL1 hz ho rfl
    · rw [t_brF (by decide), t_ai (by omega)]
      unfold fnX10_seek_J53
      rw [t_brF (by decide), lk_36_2, lk_32_0, t_ai (by omega)]
      exact seek_J83 hc hG hr hr9 c1 hw (fun i hi => by rw [(hL1 r hr hr9 i hi).2.1, stp_comm w i 99 r]) (fun i hi => by rw [(hL1 r hr hr9 i hi).1, stp_comm w 98 i r]) hR1 hS1 hL1 hz ho rfl
  · rw [t_brF (nI_nlt (by omega) (by omega)), t_ret]
    refine ⟨?_, fun a ha => (by simp (disch := omega) only [u2_ne, u2_a, u2_k, u2_at]), rfl⟩
    unfold findW
    rw [if_pos (by omega)]
    exact ⟨rfl, by simp, (by simp (disch := omega) only [u2_ne, u2_a, u2_k, u2_at, List.length_nil]), fun i hi => absurd hi (by simp), fun x hx => absurd hx (by simp), List.nodup_nil⟩
