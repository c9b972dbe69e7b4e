/-! ===== THE COUNT OF BITS, to 24 ===== -/
def bcN (N : Nat) : Nat :=
  let a := N - ((N / 2) &&& 1431655765)
  let b := (a &&& 858993459) + ((a / 4) &&& 858993459)
  let c := (b + b / 16) &&& 252645135
  let d := c + c / 256
  let e := d + d / 65536
  e &&& 63
theorem bc_u1 : (((1 : Int32).toUInt32 &&& Int32.toUInt32 31).toBitVec % 32).toNat = 1 := by decide
theorem bc_u2 : (((2 : Int32).toUInt32 &&& Int32.toUInt32 31).toBitVec % 32).toNat = 2 := by decide
theorem bc_u4 : (((4 : Int32).toUInt32 &&& Int32.toUInt32 31).toBitVec % 32).toNat = 4 := by decide
theorem bc_u8 : (((8 : Int32).toUInt32 &&& Int32.toUInt32 31).toBitVec % 32).toNat = 8 := by decide
theorem bc_u16 : (((16 : Int32).toUInt32 &&& Int32.toUInt32 31).toBitVec % 32).toNat = 16 := by decide
theorem bc_fn {N : Nat} (hN : N < 2 ^ 24) (μ : sm_Mem) : fnJ6_bitCount_0f7a4 (nI N) μ = some (nI (bcN N), μ) := by
  unfold fnJ6_bitCount_0f7a4 bcN
  simp only [m_nm, m_ret]
  have h1 : ∀ x m : Nat, x &&& m ≤ m := fun x m => Nat.and_le_right
  have h2 : ∀ x m : Nat, x &&& m ≤ x := fun x m => Nat.and_le_left
  have l1 := h2 (N / 2) 1431655765
  have e1 : nI N - ((((nI N).toUInt32 >>> ((1 : Int32).toUInt32 &&& Int32.toUInt32 31)).toInt32) &&& (1431655765 : Int32)) = nI (N - ((N / 2) &&& 1431655765)) := by
    rw [pk_ushrN (by omega) 1 1 bc_u1, show (1431655765 : Int32) = nI 1431655765 from rfl, fa_and, Nat.pow_one, pk_sub (by omega)]
  rw [e1]
  generalize ha : N - ((N / 2) &&& 1431655765) = a
  have ha2 : a < 2 ^ 24 := by omega
  have l3 := h2 a 858993459
  have l4 := h2 (a / 4) 858993459
  have e2 : (nI a &&& (858993459 : Int32)) + (((nI a).toUInt32 >>> ((2 : Int32).toUInt32 &&& Int32.toUInt32 31)).toInt32 &&& (858993459 : Int32)) = nI ((a &&& 858993459) + ((a / 4) &&& 858993459)) := by
    rw [pk_ushrN (by omega) 2 2 bc_u2, show (858993459 : Int32) = nI 858993459 from rfl, fa_and, fa_and, nI_add]
  rw [e2]
  generalize hb : (a &&& 858993459) + ((a / 4) &&& 858993459) = b
  have hb2 : b < 2 ^ 25 := by omega
  have l5 := h1 (b + b / 16) 252645135
  have e3 : (nI b + ((nI b).toUInt32 >>> ((4 : Int32).toUInt32 &&& Int32.toUInt32 31)).toInt32) &&& (252645135 : Int32) = nI ((b + b / 16) &&& 252645135) := by
    rw [pk_ushrN (by omega) 4 4 bc_u4, show (252645135 : Int32) = nI 252645135 from rfl, nI_add, fa_and]
  rw [e3]
  generalize hc : (b + b / 16) &&& 252645135 = c
  have e4 : nI c + ((nI c).toUInt32 >>> ((8 : Int32).toUInt32 &&& Int32.toUInt32 31)).toInt32 = nI (c + c / 256) := by
    rw [pk_ushrN (by omega) 8 8 bc_u8, nI_add]
  rw [e4]
  generalize hd : c + c / 256 = d
  have e5 : nI d + ((nI d).toUInt32 >>> ((16 : Int32).toUInt32 &&& Int32.toUInt32 31)).toInt32 = nI (d + d / 65536) := by
    rw [pk_ushrN (by omega) 16 16 bc_u16, nI_add]
  rw [e5, show (63 : Int32) = nI 63 from rfl, fa_and]
theorem and_split {x a : Nat} (hx : x < 256) (ha : a < 256) (y b : Nat) : (x + 256 * y) &&& (a + 256 * b) = (x &&& a) + 256 * (y &&& b) := by
  have hxa : x &&& a < 2 ^ 8 := Nat.lt_of_le_of_lt Nat.and_le_left hx
  apply Nat.eq_of_testBit_eq
  intro i
  rw [Nat.add_comm x, Nat.add_comm a, Nat.add_comm (x &&& a), show (256 : Nat) = 2 ^ 8 from rfl, Nat.testBit_and, Nat.testBit_two_pow_mul_add _ hx, Nat.testBit_two_pow_mul_add _ ha, Nat.testBit_two_pow_mul_add _ hxa]
  split
  · rw [Nat.testBit_and]
  · rw [Nat.testBit_and]
theorem bc_d1 : ∀ x : Fin 256, ∀ t : Fin 2, (x.val / 2 + 128 * t.val) &&& 85 = (x.val / 2) &&& 85 := by decide +kernel
theorem bc_d2 : ∀ x : Fin 256, ∀ t : Fin 4, (x.val / 4 + 64 * t.val) &&& 51 = (x.val / 4) &&& 51 := by decide +kernel
def bcB (x : Nat) : Nat :=
  let a := x - ((x / 2) &&& 85)
  let b := (a &&& 51) + ((a / 4) &&& 51)
  (b + b / 16) % 16
theorem bc_d3 : ∀ x : Fin 256, (let a := x.val - ((x.val / 2) &&& 85); let b := (a &&& 51) + ((a / 4) &&& 51); a < 256 ∧ b / 16 ≤ 4 ∧ b % 16 ≤ 4 ∧ b ≤ 68) := by decide +kernel
theorem bc_d4 : ∀ x : Fin 256, bcB x.val = fb_ct (fun i => x.val.testBit i) 8 := by decide +kernel
theorem bc_d5 : ∀ P : Fin 69, P.val % 16 ≤ 4 → (P.val + P.val / 16) % 16 ≤ 8 := by decide +kernel
theorem and85 (x : Nat) : (x &&& 85) ≤ 85 := Nat.and_le_right
theorem bcN_eq {x y z : Nat} (hx : x < 256) (hy : y < 256) (hz : z < 256) : bcN (x + 256 * (y + 256 * z)) = bcB x + bcB y + bcB z := by
  have k55 : (1431655765 : Nat) = 85 + 256 * (85 + 256 * (85 + 256 * 85)) := rfl
  have k33 : (858993459 : Nat) = 51 + 256 * (51 + 256 * (51 + 256 * 51)) := rfl
  have k0f : (252645135 : Nat) = 15 + 256 * (15 + 256 * (15 + 256 * 15)) := rfl
  have z0 : ∀ m : Nat, 0 &&& m = 0 := fun m => Nat.zero_and m
  have top : ∀ u : Nat, ∀ m M : Nat, u < 256 → m < 256 → u &&& (m + 256 * M) = u &&& m := by
    intro u m M hu hm
    have := and_split hu hm 0 M
    rw [Nat.mul_zero, Nat.add_zero, Nat.zero_and, Nat.mul_zero, Nat.add_zero] at this
    exact this
  unfold bcN
  have s1 : (x + 256 * (y + 256 * z)) / 2 = (x / 2 + 128 * (y % 2)) + 256 * ((y / 2 + 128 * (z % 2)) + 256 * (z / 2)) := by omega
  have m1 : ((x + 256 * (y + 256 * z)) / 2) &&& 1431655765 = ((x / 2) &&& 85) + 256 * (((y / 2) &&& 85) + 256 * ((z / 2) &&& 85)) := by
    rw [s1, k55, and_split (by omega) (by omega), and_split (by omega) (by omega), top _ _ _ (by omega) (by omega)]
    rw [bc_d1 ⟨x, hx⟩ ⟨y % 2, Nat.mod_lt _ (by omega)⟩, bc_d1 ⟨y, hy⟩ ⟨z % 2, Nat.mod_lt _ (by omega)⟩]
  have ax : (x / 2) &&& 85 ≤ x / 2 := Nat.and_le_left
  have ay : (y / 2) &&& 85 ≤ y / 2 := Nat.and_le_left
  have az : (z / 2) &&& 85 ≤ z / 2 := Nat.and_le_left
  have hX := bc_d3 ⟨x, hx⟩
  have hY := bc_d3 ⟨y, hy⟩
  have hZ := bc_d3 ⟨z, hz⟩
  unfold bcB
  simp only at hX hY hZ ⊢
  rw [m1]
  have a1 : x + 256 * (y + 256 * z) - (((x / 2) &&& 85) + 256 * (((y / 2) &&& 85) + 256 * ((z / 2) &&& 85))) = (x - ((x / 2) &&& 85)) + 256 * ((y - ((y / 2) &&& 85)) + 256 * (z - ((z / 2) &&& 85))) := by omega
  rw [a1]
  generalize x - ((x / 2) &&& 85) = A at hX ⊢
  generalize y - ((y / 2) &&& 85) = B at hY ⊢
  generalize z - ((z / 2) &&& 85) = C at hZ ⊢
  have s2 : (A + 256 * (B + 256 * C)) / 4 = (A / 4 + 64 * (B % 4)) + 256 * ((B / 4 + 64 * (C % 4)) + 256 * (C / 4)) := by omega
  have m2 : ((A + 256 * (B + 256 * C)) / 4) &&& 858993459 = ((A / 4) &&& 51) + 256 * (((B / 4) &&& 51) + 256 * ((C / 4) &&& 51)) := by
    rw [s2, k33, and_split (by omega) (by omega), and_split (by omega) (by omega), top _ _ _ (by omega) (by omega)]
    rw [bc_d2 ⟨A, hX.1⟩ ⟨B % 4, Nat.mod_lt _ (by omega)⟩, bc_d2 ⟨B, hY.1⟩ ⟨C % 4, Nat.mod_lt _ (by omega)⟩]
  have m3 : (A + 256 * (B + 256 * C)) &&& 858993459 = (A &&& 51) + 256 * ((B &&& 51) + 256 * (C &&& 51)) := by
    rw [k33, and_split hX.1 (by omega), and_split hY.1 (by omega), top _ _ _ hZ.1 (by omega)]
  rw [m2, m3]
  have b1 : (A &&& 51) + 256 * ((B &&& 51) + 256 * (C &&& 51)) + (((A / 4) &&& 51) + 256 * (((B / 4) &&& 51) + 256 * ((C / 4) &&& 51))) = ((A &&& 51) + ((A / 4) &&& 51)) + 256 * (((B &&& 51) + ((B / 4) &&& 51)) + 256 * ((C &&& 51) + ((C / 4) &&& 51))) := by omega
  rw [b1]
  generalize (A &&& 51) + ((A / 4) &&& 51) = P at hX ⊢
  generalize (B &&& 51) + ((B / 4) &&& 51) = Q at hY ⊢
  generalize (C &&& 51) + ((C / 4) &&& 51) = R at hZ ⊢
  have s3 : (P + 256 * (Q + 256 * R)) + (P + 256 * (Q + 256 * R)) / 16 = (P + P / 16 + 16 * (Q % 16)) + 256 * ((Q + Q / 16 + 16 * (R % 16)) + 256 * (R + R / 16)) := by omega
  have a15 : ∀ u : Nat, u &&& 15 = u % 16 := fun u => Nat.and_two_pow_sub_one_eq_mod u 4
  have m4 : ((P + 256 * (Q + 256 * R)) + (P + 256 * (Q + 256 * R)) / 16) &&& 252645135 = ((P + P / 16) % 16) + 256 * (((Q + Q / 16) % 16) + 256 * ((R + R / 16) % 16)) := by
    rw [s3, k0f, and_split (by omega) (by omega), and_split (by omega) (by omega), top _ _ _ (by omega) (by omega), a15, a15, a15]
    omega
  rw [m4]
  have a63 : ∀ u : Nat, u &&& 63 = u % 64 := fun u => Nat.and_two_pow_sub_one_eq_mod u 6
  rw [a63]
  have x1 : (P + P / 16) % 16 ≤ 8 := bc_d5 ⟨P, by omega⟩ hX.2.2.1
  have x2 : (Q + Q / 16) % 16 ≤ 8 := bc_d5 ⟨Q, by omega⟩ hY.2.2.1
  have x3 : (R + R / 16) % 16 ≤ 8 := bc_d5 ⟨R, by omega⟩ hZ.2.2.1
  clear m4 s3 m3 m2 s2 hX hY hZ a1 b1
  generalize (P + P / 16) % 16 = X at x1 ⊢
  generalize (Q + Q / 16) % 16 = Y at x2 ⊢
  generalize (R + R / 16) % 16 = Z at x3 ⊢
  have y1 : (X + 256 * (Y + 256 * Z)) / 256 = Y + 256 * Z := by omega
  rw [y1]
  have y2 : (X + 256 * (Y + 256 * Z) + (Y + 256 * Z)) / 65536 = Z := by omega
  rw [y2]
  omega
theorem ct_bits {x y z : Nat} (hx : x < 256) (hy : y < 256) : fb_ct (fun i => (x + 256 * (y + 256 * z)).testBit i) 24 = fb_ct (fun i => x.testBit i) 8 + fb_ct (fun i => y.testBit i) 8 + fb_ct (fun i => z.testBit i) 8 := by
  have e : ∀ i, (x + 256 * (y + 256 * z)).testBit i = if i < 8 then x.testBit i else (y + 256 * z).testBit (i - 8) := by
    intro i
    rw [Nat.add_comm x, show (256 : Nat) = 2 ^ 8 from rfl, Nat.testBit_two_pow_mul_add _ hx]
  have e2 : ∀ i, (y + 256 * z).testBit i = if i < 8 then y.testBit i else z.testBit (i - 8) := by
    intro i
    rw [Nat.add_comm y, show (256 : Nat) = 2 ^ 8 from rfl, Nat.testBit_two_pow_mul_add _ hy]
  rw [show (24 : Nat) = 8 + (8 + 8) from rfl, fb_ct_split, fb_ct_split]
  have c1 : fb_ct (fun i => (x + 256 * (y + 256 * z)).testBit i) 8 = fb_ct (fun i => x.testBit i) 8 := fb_ct_cong (fun k hk => by rw [e, if_pos hk])
  have c2 : fb_ct (fun k => (x + 256 * (y + 256 * z)).testBit (8 + k)) 8 = fb_ct (fun i => y.testBit i) 8 := fb_ct_cong (fun k hk => by rw [e, if_neg (by omega), e2, Nat.add_sub_cancel_left, if_pos hk])
  have c3 : fb_ct (fun k => (x + 256 * (y + 256 * z)).testBit (8 + (8 + k))) 8 = fb_ct (fun i => z.testBit i) 8 := fb_ct_cong (fun k hk => by rw [e, if_neg (by omega), e2, if_neg (by omega), show 8 + (8 + k) - 8 - 8 = k by omega])
  rw [c1, c2, c3]
  omega
theorem bitCount_eq {m : Int32} (h : ∀ i, 24 ≤ i → i < 32 → bt m i = false) (μ : sm_Mem) : fnJ6_bitCount_0f7a4 m μ = some (nI (fb_ct (bt m) 24), μ) := by
  have hN : m.toBitVec.toNat < 2 ^ 24 := by
    apply Nat.lt_pow_two_of_testBit
    intro i hi
    rcases Nat.lt_or_ge i 32 with q | q
    · exact h i hi q
    · exact BitVec.getLsbD_of_ge _ _ q
  have em : m = nI m.toBitVec.toNat := by
    apply Int32.toBitVec_inj.1
    show m.toBitVec = BitVec.ofNat 32 m.toBitVec.toNat
    simp
  have eb : bt m = fun i => m.toBitVec.toNat.testBit i := rfl
  rw [eb]
  generalize hN' : m.toBitVec.toNat = N at hN em
  rw [em, bc_fn hN]
  have d : N = N % 256 + 256 * (N / 256 % 256 + 256 * (N / 65536)) := by omega
  rw [d, bcN_eq (by omega) (by omega) (by omega), ct_bits (by omega) (by omega)]
  have q1 := bc_d4 ⟨N % 256, by omega⟩
  have q2 := bc_d4 ⟨N / 256 % 256, by omega⟩
  have q3 := bc_d4 ⟨N / 65536, by omega⟩
  simp only at q1 q2 q3
  rw [q1, q2, q3]
/-- the mask of a set -/
def mk (p : Nat → Bool) : Nat → Int32
  | 0 => 0
  | n + 1 => if p n = true then mk p n ||| ((1 : Int32) <<< (nI n &&& 31)) else mk p n
theorem bt_mk (p : Nat → Bool) : ∀ n, n ≤ 32 → ∀ i, i < 32 → bt (mk p n) i = (decide (i < n) && p i)
  | 0, _, i, hi => by
    show bt 0 i = _
    rw [b_0]
    simp
  | n + 1, hn, i, hi => by
    have ih := bt_mk p n (by omega) i hi
    unfold mk
    by_cases hp : p n = true
    · rw [if_pos hp, b_or, ih, k_1 n (by omega) i hi]
      by_cases e : i = n
      · simp [e, hp]
      · by_cases l : i < n
        · simp [l, e, show i < n + 1 by omega]
        · simp [l, e, show ¬ i < n + 1 by omega]
    · rw [if_neg hp, ih]
      by_cases e : i = n
      · have : p n = false := by simpa using hp
        simp [e, this]
      · by_cases l : i < n
        · simp [l, show i < n + 1 by omega]
        · simp [l, show ¬ i < n + 1 by omega]
theorem bitCount_mk {p : Nat → Bool} {n : Nat} (hn : n ≤ 24) (μ : sm_Mem) : fnJ6_bitCount_0f7a4 (mk p n) μ = some (nI (fb_ct p n), μ) := by
  rw [bitCount_eq]
  · have e : fb_ct (bt (mk p n)) 24 = fb_ct p n := by
      have h1 : fb_ct (bt (mk p n)) 24 = fb_ct (fun i => decide (i < n) && p i) 24 := fb_ct_cong (fun k hk => bt_mk p n (by omega) k (by omega))
      rw [h1, show (24 : Nat) = n + (24 - n) by omega, fb_ct_split]
      have h2 : fb_ct (fun i => decide (i < n) && p i) n = fb_ct p n := fb_ct_cong (fun k hk => by simp [hk])
      have h3 : fb_ct (fun k => decide (n + k < n) && p (n + k)) (24 - n) = 0 := fb_ct_zero.mpr (fun k _ => by simp [show ¬ n + k < n by omega])
      rw [h2, h3, Nat.add_zero]
    rw [e]
  · intro i h1 h2
    rw [bt_mk p n (by omega) i h2]
    simp [show ¬ i < n by omega]
