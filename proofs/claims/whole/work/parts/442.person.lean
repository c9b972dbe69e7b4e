/-! ===== READING: a person ===== -/
section
variable (tp : Nat → Int32) (n : Nat) (w : Nat → Nat)
def p1 (σ : Nat × Option (Nat × Nat)) : Nat × Option (Nat × Nat) := prS tp n 9 1 10 (adS tp n σ)
def pS (σ : Nat × Option (Nat × Nat)) : Nat := prV tp n 9 1 10 (adS tp n σ)
def p2 (σ : Nat × Option (Nat × Nat)) : Nat × Option (Nat × Nat) := prS tp n 10 1 4 (p1 tp n σ)
def pW (σ : Nat × Option (Nat × Nat)) : Nat := prV tp n 10 1 4 (p1 tp n σ)
def p3 (σ : Nat × Option (Nat × Nat)) : Nat × Option (Nat × Nat) := prS tp n 11 0 100 (p2 tp n σ)
def pV (σ : Nat × Option (Nat × Nat)) : Nat := prV tp n 11 0 100 (p2 tp n σ)
def pM (σ : Nat × Option (Nat × Nat)) : Bool := flS tp n 12 (p3 tp n σ)
def p4 (σ : Nat × Option (Nat × Nat)) : Nat × Option (Nat × Nat) := tkS tp n 12 (p3 tp n σ)
def pB (σ : Nat × Option (Nat × Nat)) : Bool := flS tp n 13 (p4 tp n σ)
def p5 (σ : Nat × Option (Nat × Nat)) : Nat × Option (Nat × Nat) := tkS tp n 13 (p4 tp n σ)
def pH (σ : Nat × Option (Nat × Nat)) : Bool := flS tp n 14 (p5 tp n σ)
def p6 (σ : Nat × Option (Nat × Nat)) : Nat × Option (Nat × Nat) := tkS tp n 14 (p5 tp n σ)
/-- the hand asked for is already held -/
def pD (σ : Nat × Option (Nat × Nat)) : Bool := decide (aKd tp n (p6 tp n σ).1 = 2 ∧ aVl tp n (p6 tp n σ).1 < w 4 ∧ w (190 + 7 * aVl tp n (p6 tp n σ).1) ≠ 0)
def p7 (σ : Nat × Option (Nat × Nat)) : Nat × Option (Nat × Nat) := if pD tp n w σ = true then rfS tp n 2 (p6 tp n σ) else p6 tp n σ
def p8 (σ : Nat × Option (Nat × Nat)) : Nat × Option (Nat × Nat) := if pH tp n σ = true then nuS tp n 0 (w 4) (p7 tp n w σ) else p5 tp n σ
def pQ (σ : Nat × Option (Nat × Nat)) : Nat := nuV tp n 0 (w 4) (p7 tp n w σ)
/-- the world with the person, without hands -/
def peA (σ : Nat × Option (Nat × Nat)) : Nat → Nat := up (up (up (up (up (up (up w (185 + 7 * w 4) (pS tp n σ)) (186 + 7 * w 4) (pW tp n σ)) (187 + 7 * w 4) (pV tp n σ)) (188 + 7 * w 4) (if pM tp n σ = true then 1 else 0)) (189 + 7 * w 4) (if pB tp n σ = true then 1 else 0)) (190 + 7 * w 4) 0) (191 + 7 * w 4) 98
def peH (σ : Nat × Option (Nat × Nat)) : Nat → Nat := if pH tp n σ = true then up (up (peA tp n w σ) (190 + 7 * w 4) (pQ tp n w σ + 1)) (190 + 7 * pQ tp n w σ) (w 4 + 1) else peA tp n w σ
def peW (σ : Nat × Option (Nat × Nat)) : Nat → Nat := up (peH tp n w σ) 4 (w 4 + 1)
end
