/-! ===== READING: a stone, the component ===== -/
theorem frPr_rf (μ : sm_Mem) : FrPr μ μ := ⟨fun _ _ => rfl, fun _ _ => rfl, rfl⟩
section
variable {tp : Nat → Int32} {n : Nat} {w : Nat → Nat} {σ : Nat × Option (Nat × Nat)} {μ0 : sm_Mem}
theorem stW_o {i : Nat} (h3 : i ≠ 3) (h5 : i ≠ 5) (h : i < 10 + 7 * w 3 ∨ 15 + 7 * w 3 ≤ i) : stW tp n w σ i = w i := by
  unfold stW
  rw [up_ne h3, up_ne h5, up_ne (by omega), up_ne (by omega), up_ne (by omega), up_ne (by omega), up_ne (by omega)]
theorem stW_n (h3 : w 3 ≤ 24) : stW tp n w σ 3 = w 3 + 1 ∧ stW tp n w σ 5 = (w 5 + if sN tp n w σ = 0 then 0 else 1) ∧ stW tp n w σ (10 + 7 * w 3) = sX tp n w σ ∧ stW tp n w σ (11 + 7 * w 3) = sY tp n w σ ∧ stW tp n w σ (12 + 7 * w 3) = sB tp n w σ ∧ stW tp n w σ (13 + 7 * w 3) = sK tp n w σ ∧ stW tp n w σ (14 + 7 * w 3) = sN tp n w σ := by
  unfold stW
  refine ⟨up_at, ?_, ?_, ?_, ?_, ?_, ?_⟩
  · rw [up_ne (by omega), up_at]
  · rw [up_ne (by omega), up_ne (by omega), up_ne (by omega), up_ne (by omega), up_ne (by omega), up_ne (by omega), up_at]
  · rw [up_ne (by omega), up_ne (by omega), up_ne (by omega), up_ne (by omega), up_ne (by omega), up_at]
  · rw [up_ne (by omega), up_ne (by omega), up_ne (by omega), up_ne (by omega), up_at]
  · rw [up_ne (by omega), up_ne (by omega), up_ne (by omega), up_at]
  · rw [up_ne (by omega), up_ne (by omega), up_at]
def Stp6 (tp : Nat → Int32) (n : Nat) (w : Nat → Nat) (σ : Nat × Option (Nat × Nat)) (μ0 : sm_Mem) (_ : Unit) (μ : sm_Mem) : Prop := C6 tp n (s8 tp n w σ) μ ∧ RH 3 (stW tp n w σ) μ ∧ μ.1 2 9 = nI (stW tp n w σ 5) ∧ FrPr μ0 μ
theorem stone224 (h3 : w 3 < 24) (h4 : w 4 ≤ 8) {v : Nat → Option Nat} {μ : sm_Mem} (h : St6 tp n w (s8 tp n w σ) v μ0 μ) (v0 : v 0 = some (sX tp n w σ)) (v1 : v 1 = some (sY tp n w σ)) (v2 : v 2 = some (sB tp n w σ)) (v3 : v 3 = some (sK tp n w σ)) (hN : sN tp n w σ ≤ 99) : T (fnX6_readStone_J224 2 (nI (w 3)) (nI (sN tp n w σ)) (nI (w 3)) 8) μ (Stp6 tp n w σ μ0) := by
  have e_8 : ln 8 = 24 := rfl
  unfold fnX6_readStone_J224 fnX6_readStone_J247
  rw [t_sai (by omega)]
  have S : St6 tp n w (s8 tp n w σ) (fun i => if i = 4 then some (sN tp n w σ) else v i) μ0 (u2 μ.1 8 (w 3) (nI (sN tp n w σ)), μ.2) := st6_w h (j := 4) (by omega)
  have x8 : (u2 μ.1 8 (w 3) (nI (sN tp n w σ)), μ.2).1 8 (w 3) = nI (sN tp n w σ) := (by simp (disch := omega) only [u2_ne, u2_a, u2_k, u2_at])
  revert S x8
  generalize (u2 μ.1 8 (w 3) (nI (sN tp n w σ)), μ.2) = μ1
  intro S x8
  obtain ⟨c, r, h9, hv, f1, f2, f3⟩ := S
  obtain ⟨n1, n2, n3, n4, n5, n6, n7⟩ := stW_n (tp := tp) (n := n) (σ := σ) (show w 3 ≤ 24 by omega)
  have end_ : ∀ d : Nat, (w 5 + d) = stW tp n w σ 5 → T (m_si 2 9 (nI (w 5) + nI d) <| m_gi 3 4 fun x256 => m_si 3 4 (x256 + (1 : Int32)) <| m_ret ()) μ1 (Stp6 tp n w σ μ0) := by
    intro d hd
    rw [nI_add, hd, t_si, t_gi, show (u2 μ1.1 2 9 (nI (stW tp n w σ 5)), μ1.2).1 3 4 = nI (w 3) by rw [← r.1.2.2.2.2.1]; simp (disch := omega) only [u2_ne, u2_a, u2_k, u2_at], nI_1, t_si, t_ret]
    have e1 : u2 (u2 μ1.1 2 9 (nI (stW tp n w σ 5))) 3 4 (nI (w 3 + 1)) 1 = μ1.1 1 := by rw [u2_ne (by omega), u2_ne (by omega)]
    have e2 : ∀ k, k ≠ 9 → u2 (u2 μ1.1 2 9 (nI (stW tp n w σ 5))) 3 4 (nI (w 3 + 1)) 2 k = μ1.1 2 k := fun k hk => by rw [u2_ne (by omega), u2_k hk]
    have ea : ∀ a, a ≠ 2 → a ≠ 3 → u2 (u2 μ1.1 2 9 (nI (stW tp n w σ 5))) 3 4 (nI (w 3 + 1)) a = μ1.1 a := fun a h1 h2 => by rw [u2_ne h2, u2_ne h1]
    have e3 : ∀ k, k ≠ 4 → u2 (u2 μ1.1 2 9 (nI (stW tp n w σ 5))) 3 4 (nI (w 3 + 1)) 3 k = μ1.1 3 k := fun k hk => by rw [u2_k hk, u2_ne (by omega)]
    refine ⟨⟨⟨c.1.1, ?_, ?_⟩, c.2.1, ⟨?_, ?_, ?_, ?_⟩, ?_⟩, ⟨⟨?_, ?_, ?_, ?_, ?_, ?_⟩, ?_, ?_, ?_, ?_⟩, ?_, ?_, ?_, f3⟩
    · exact (e2 4 (by omega)).trans c.1.2.1
    · intro k hk
      show u2 (u2 μ1.1 2 9 (nI (stW tp n w σ 5))) 3 4 (nI (w 3 + 1)) 1 k = _
      rw [e1]
      exact c.1.2.2 k hk
    · exact (e2 5 (by omega)).trans c.2.2.1.1
    · exact (e2 6 (by omega)).trans c.2.2.1.2.1
    · exact (e2 7 (by omega)).trans c.2.2.1.2.2.1
    · intro z
      exact (e2 8 (by omega)).trans (c.2.2.1.2.2.2 z)
    · have hf := c.2.2.2
      cases hq : (s8 tp n w σ).2 with
      | none =>
        rw [hq] at hf
        exact ⟨(e2 1 (by omega)).trans hf.1, (e2 2 (by omega)).trans hf.2⟩
      | some q =>
        rw [hq] at hf
        exact ⟨(e2 1 (by omega)).trans hf.1, (e2 2 (by omega)).trans hf.2.1, hf.2.2⟩
    · rw [stW_o (i := 0) (by omega) (by omega) (by omega)]
      exact (e3 0 (by omega)).trans r.1.1
    · rw [stW_o (i := 1) (by omega) (by omega) (by omega)]
      exact (e3 1 (by omega)).trans r.1.2.1
    · rw [stW_o (i := 2) (by omega) (by omega) (by omega)]
      exact (e3 2 (by omega)).trans r.1.2.2.1
    · rw [stW_o (i := 6) (by omega) (by omega) (by omega)]
      exact (e3 3 (by omega)).trans r.1.2.2.2.1
    · rw [n1]
      show u2 (u2 μ1.1 2 9 (nI (stW tp n w σ 5))) 3 4 (nI (w 3 + 1)) 3 4 = _
      rw [u2_at]
    · rw [stW_o (i := 4) (by omega) (by omega) (by omega)]
      exact (e3 5 (by omega)).trans r.1.2.2.2.2.2
    · intro p hp
      rw [stW_o (i := 4) (by omega) (by omega) (by omega), stW_o (i := 188 + 7 * p) (by omega) (by omega) (by omega)]
      show bt (u2 (u2 μ1.1 2 9 (nI (stW tp n w σ 5))) 3 4 (nI (w 3 + 1)) 3 6) p = _
      rw [e3 6 (by omega)]
      exact r.2.1 p hp
    · intro p hp
      rw [stW_o (i := 4) (by omega) (by omega) (by omega), stW_o (i := 189 + 7 * p) (by omega) (by omega) (by omega)]
      show bt (u2 (u2 μ1.1 2 9 (nI (stW tp n w σ 5))) 3 4 (nI (w 3 + 1)) 3 7) p = _
      rw [e3 7 (by omega)]
      exact r.2.2.1 p hp
    · intro s hs
      show u2 (u2 μ1.1 2 9 (nI (stW tp n w σ 5))) 3 4 (nI (w 3 + 1)) (3 + 1) s = _ ∧ u2 (u2 μ1.1 2 9 (nI (stW tp n w σ 5))) 3 4 (nI (w 3 + 1)) (3 + 2) s = _ ∧ u2 (u2 μ1.1 2 9 (nI (stW tp n w σ 5))) 3 4 (nI (w 3 + 1)) (3 + 3) s = _ ∧ u2 (u2 μ1.1 2 9 (nI (stW tp n w σ 5))) 3 4 (nI (w 3 + 1)) (3 + 4) s = _ ∧ u2 (u2 μ1.1 2 9 (nI (stW tp n w σ 5))) 3 4 (nI (w 3 + 1)) (3 + 5) s = _
      rw [ea _ (by omega) (by omega), ea _ (by omega) (by omega), ea _ (by omega) (by omega), ea _ (by omega) (by omega), ea _ (by omega) (by omega)]
      rw [n1] at hs
      by_cases cs : s = w 3
      · rw [cs, n3, n4, n5, n6, n7]
        exact ⟨hv 0 _ (by omega) (by simpa using v0), hv 1 _ (by omega) (by simpa using v1), hv 2 _ (by omega) (by simpa using v2), hv 3 _ (by omega) (by simpa using v3), x8⟩
      · rw [stW_o (i := 10 + 7 * s) (by omega) (by omega) (by omega), stW_o (i := 11 + 7 * s) (by omega) (by omega) (by omega), stW_o (i := 12 + 7 * s) (by omega) (by omega) (by omega), stW_o (i := 13 + 7 * s) (by omega) (by omega) (by omega), stW_o (i := 14 + 7 * s) (by omega) (by omega) (by omega)]
        exact r.2.2.2.1 s (by omega)
    · intro p hp
      rw [stW_o (i := 4) (by omega) (by omega) (by omega)] at hp
      show u2 (u2 μ1.1 2 9 (nI (stW tp n w σ 5))) 3 4 (nI (w 3 + 1)) (3 + 6) p = _ ∧ u2 (u2 μ1.1 2 9 (nI (stW tp n w σ 5))) 3 4 (nI (w 3 + 1)) (3 + 7) p = _ ∧ u2 (u2 μ1.1 2 9 (nI (stW tp n w σ 5))) 3 4 (nI (w 3 + 1)) (3 + 8) p = _ ∧ u2 (u2 μ1.1 2 9 (nI (stW tp n w σ 5))) 3 4 (nI (w 3 + 1)) (3 + 9) p = _
      rw [ea _ (by omega) (by omega), ea _ (by omega) (by omega), ea _ (by omega) (by omega), ea _ (by omega) (by omega)]
      rw [stW_o (i := 185 + 7 * p) (by omega) (by omega) (by omega), stW_o (i := 186 + 7 * p) (by omega) (by omega) (by omega), stW_o (i := 187 + 7 * p) (by omega) (by omega) (by omega), stW_o (i := 190 + 7 * p) (by omega) (by omega) (by omega)]
      exact r.2.2.2.2 p hp
    · show u2 (u2 μ1.1 2 9 (nI (stW tp n w σ 5))) 3 4 (nI (w 3 + 1)) 2 9 = _
      simp (disch := omega) only [u2_ne, u2_a, u2_k, u2_at]
    · intro k hk
      exact (e2 k (by omega)).trans (f1 k hk)
    · intro a ha
      show u2 (u2 μ1.1 2 9 (nI (stW tp n w σ 5))) 3 4 (nI (w 3 + 1)) a = _
      rw [ea a (by omega) (by omega)]
      exact f2 a ha
  rw [t_gi, h9, lk_2_0, lk_3_12, t_ai (by omega), x8]
  by_cases c0 : sN tp n w σ ≤ 0
  · rw [t_brT (show nI (sN tp n w σ) ≤ (0 : Int32) from nI_le (b := 0) c0 (by omega))]
    exact end_ 0 (by rw [n2, if_pos (by omega)])
  · rw [t_brF (show ¬ nI (sN tp n w σ) ≤ (0 : Int32) from nI_ge (a := 0) (by omega) (by omega))]
    exact end_ 1 (by rw [n2, if_neg (by omega)])
end
