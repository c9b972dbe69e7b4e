/-! ===== TOTAL CORRECTNESS ON MEMORIES: T f μ Q: f ends from μ, with an answer and a memory of which Q holds ===== -/
def T {α : Type} (f : sm_M α) (μ : sm_Mem) (Q : α → sm_Mem → Prop) : Prop := ∃ (r : α) (μ' : sm_Mem), f μ = some (r, μ') ∧ Q r μ'
theorem t_eq {α : Type} {f : sm_M α} {μ μ' : sm_Mem} {r : α} {Q : α → sm_Mem → Prop} (h : f μ = some (r, μ')) : T f μ Q ↔ Q r μ' := by
  unfold T
  rw [h]
  constructor
  · rintro ⟨r', μ'', e, q⟩
    cases e
    exact q
  · intro q
    exact ⟨r, μ', rfl, q⟩
theorem t_mono {α : Type} {f : sm_M α} {μ : sm_Mem} {Q Q' : α → sm_Mem → Prop} (h : T f μ Q) (hq : ∀ r μ', Q r μ' → Q' r μ') : T f μ Q' := by
  obtain ⟨r, μ', e, q⟩ := h
  exact ⟨r, μ', e, hq r μ' q⟩
theorem t_ret {α : Type} {a : α} {μ : sm_Mem} {Q : α → sm_Mem → Prop} : T (m_ret a) μ Q ↔ Q a μ := t_eq rfl
theorem t_bnd {α β : Type} {f : sm_M β} {g : β → sm_M α} {μ : sm_Mem} {Q : α → sm_Mem → Prop} : T (m_bnd f g) μ Q ↔ T f μ (fun b μ' => T (g b) μ' Q) := by
  constructor
  · rintro ⟨r, μ', h, q⟩
    unfold m_bnd at h
    split at h
    · cases h
    · rename_i b μ1 hf
      exact ⟨b, μ1, hf, r, μ', h, q⟩
  · rintro ⟨b, μ1, hf, r, μ', h, q⟩
    refine ⟨r, μ', ?_, q⟩
    unfold m_bnd
    rw [hf]
    exact h
theorem t_br {α : Type} {c : Prop} [Decidable c] {f g : sm_M α} {μ : sm_Mem} {Q : α → sm_Mem → Prop} : T (m_br c f g) μ Q ↔ if c then T f μ Q else T g μ Q := by
  by_cases h : c
  · rw [if_pos h]
    unfold T m_br
    rw [if_pos h]
  · rw [if_neg h]
    unfold T m_br
    rw [if_neg h]
theorem t_brT {α : Type} {c : Prop} [Decidable c] {f g : sm_M α} {μ : sm_Mem} {Q : α → sm_Mem → Prop} (h : c) : T (m_br c f g) μ Q ↔ T f μ Q := by rw [t_br, if_pos h]
theorem t_brF {α : Type} {c : Prop} [Decidable c] {f g : sm_M α} {μ : sm_Mem} {Q : α → sm_Mem → Prop} (h : ¬ c) : T (m_br c f g) μ Q ↔ T g μ Q := by rw [t_br, if_neg h]
theorem t_gd {α : Type} {c : Prop} [Decidable c] {f : sm_M α} {μ : sm_Mem} {Q : α → sm_Mem → Prop} (h : c) : T (m_gd c f) μ Q ↔ T f μ Q := by
  unfold T m_gd
  rw [if_pos h]
theorem t_nm {α β : Type} {x : β} {g : β → sm_M α} {μ : sm_Mem} {Q : α → sm_Mem → Prop} : T (m_nm x g) μ Q ↔ T (g x) μ Q := Iff.rfl
theorem t_gi {α : Type} {a k : Nat} {g : Int32 → sm_M α} {μ : sm_Mem} {Q : α → sm_Mem → Prop} : T (m_gi a k g) μ Q ↔ T (g (μ.1 a k)) μ Q := Iff.rfl
theorem t_gl {α : Type} {a k : Nat} {g : Int64 → sm_M α} {μ : sm_Mem} {Q : α → sm_Mem → Prop} : T (m_gl a k g) μ Q ↔ T (g (μ.2.1 a k)) μ Q := Iff.rfl
theorem t_si {α : Type} {a k : Nat} {x : Int32} {f : sm_M α} {μ : sm_Mem} {Q : α → sm_Mem → Prop} : T (m_si a k x f) μ Q ↔ T f (u2 μ.1 a k x, μ.2) Q := Iff.rfl
theorem t_sl {α : Type} {a k : Nat} {x : Int64} {f : sm_M α} {μ : sm_Mem} {Q : α → sm_Mem → Prop} : T (m_sl a k x f) μ Q ↔ T f (μ.1, u2 μ.2.1 a k x, μ.2.2) Q := Iff.rfl
theorem t_st {α : Type} {t : Nat} {f : sm_M α} {μ : sm_Mem} {Q : α → sm_Mem → Prop} : T (m_st t f) μ Q ↔ T f (μ.1, μ.2.1, t) Q := Iff.rfl
theorem t_gt {α : Type} {g : Nat → sm_M α} {μ : sm_Mem} {Q : α → sm_Mem → Prop} (h : kd μ.2.2 = 21) : T (m_gt g) μ Q ↔ T (g μ.2.2) μ Q := by
  unfold T m_gt
  rw [if_pos h]
theorem t_in {k L : Nat} (h : k < L) (hL : L < 4096) : ¬ (nI k < 0 ∨ L ≤ (nI k).toNatClampNeg) := nI_in h (by omega)
theorem ln_small (r : Nat) : ln r < 4096 := by
  unfold ln
  rcases Nat.lt_or_ge r lnL.length with h | h
  · have e : lnL.all (fun x => decide (x < 4096)) = true := by decide +kernel
    have e2 := List.all_eq_true.mp e (lnL.getD r 0) (by rw [List.getD_eq_getElem?_getD, List.getElem?_eq_getElem h]; exact List.getElem_mem h)
    exact of_decide_eq_true e2
  · rw [List.getD_eq_getElem?_getD, List.getElem?_eq_none h]
    decide
/-- an element by a number: the index is in range -/
theorem t_ai {α : Type} {r k : Nat} {g : Int32 → sm_M α} {μ : sm_Mem} {Q : α → sm_Mem → Prop} (h : k < ln r) : T (m_ai r (nI k) g) μ Q ↔ T (g (μ.1 r k)) μ Q := by
  have hs := ln_small r
  unfold T m_ai
  rw [if_pos (t_in h hs), nI_clamp (by omega)]
theorem t_al {α : Type} {r k : Nat} {g : Int64 → sm_M α} {μ : sm_Mem} {Q : α → sm_Mem → Prop} (h : k < ln r) : T (m_al r (nI k) g) μ Q ↔ T (g (μ.2.1 r k)) μ Q := by
  have hs := ln_small r
  unfold T m_al
  rw [if_pos (t_in h hs), nI_clamp (by omega)]
theorem t_ap {α : Type} {r k : Nat} {g : Nat → sm_M α} {μ : sm_Mem} {Q : α → sm_Mem → Prop} (h : k < ln r) : T (m_ap r (nI k) g) μ Q ↔ T (g (lk r k)) μ Q := by
  have hs := ln_small r
  unfold T m_ap
  rw [if_pos (t_in h hs), nI_clamp (by omega)]
theorem t_sai {α : Type} {r k : Nat} {x : Int32} {f : sm_M α} {μ : sm_Mem} {Q : α → sm_Mem → Prop} (h : k < ln r) : T (m_sai r (nI k) x f) μ Q ↔ T f (u2 μ.1 r k x, μ.2) Q := by
  have hs := ln_small r
  unfold T m_sai
  rw [if_pos (t_in h hs), nI_clamp (by omega)]
theorem t_sal {α : Type} {r k : Nat} {x : Int64} {f : sm_M α} {μ : sm_Mem} {Q : α → sm_Mem → Prop} (h : k < ln r) : T (m_sal r (nI k) x f) μ Q ↔ T f (μ.1, u2 μ.2.1 r k x, μ.2.2) Q := by
  have hs := ln_small r
  unfold T m_sal
  rw [if_pos (t_in h hs), nI_clamp (by omega)]
theorem t_op2 {Inv : sm_Mem → Prop} {β : Type} {f g : sm_M β} (h : ∀ μ, Inv μ → T f μ (fun r μ1 => T g μ1 (fun r' μ2 => r' = r ∧ Inv μ2))) : op2 Inv f g := by
  intro μ hI
  obtain ⟨r, μ1, h1, r', μ2, h2, e, hI2⟩ := h μ hI
  subst e
  exact ⟨r', μ1, μ2, h1, h2, hI2⟩
theorem u2_at {β : Type} {f : Nat → Nat → β} {a k : Nat} {x : β} : u2 f a k x a k = x := by simp [u2]
theorem u2_k {β : Type} {f : Nat → Nat → β} {a k j : Nat} {x : β} (h : j ≠ k) : u2 f a k x a j = f a j := by simp [u2, h]
theorem u2_a {β : Type} {f : Nat → Nat → β} {a k b j : Nat} {x : β} (h : b ≠ a) : u2 f a k x b j = f b j := by simp [u2, h]
theorem bI_t : bI true = 1 := rfl
theorem bI_f : bI false = 0 := rfl
theorem bI_0 (b : Bool) : (bI b = 0) ↔ b = false := by cases b <;> decide
theorem bI_1 (b : Bool) : (bI b = 1) ↔ b = true := by cases b <;> decide
theorem bI_eq (a b : Bool) : (bI a = bI b) ↔ a = b := by cases a <;> cases b <;> decide
theorem n_m1 {n : Nat} (h : n < 2 ^ 31) : ¬ nI n = (-1 : Int32) := by
  intro e
  have h1 := nI_toInt h
  rw [e] at h1
  have h2 : ((-1 : Int32)).toInt = -1 := by decide
  omega
