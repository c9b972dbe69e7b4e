/-! ===== WHAT IS ASKED, as functions of the abstract world ===== -/
def up (w : Nat → Nat) (i v : Nat) : Nat → Nat := fun k => if k = i then v else w k
theorem up_at {w : Nat → Nat} {i v : Nat} : up w i v i = v := by simp [up]
theorem up_ne {w : Nat → Nat} {i v k : Nat} (h : k ≠ i) : up w i v k = w k := by simp [up, h]
def opn (w : Nat → Nat) (wt s : Nat) : Bool := decide (s < w 3 ∧ wt ≤ lf w s)
def adw (w : Nat → Nat) (r s t : Nat) : Bool := decide (s < w 3 ∧ t < w 3) && stp w s t r
/-- one comes to s over open stones, from this bank -/
def Rch (w : Nat → Nat) (op : Nat → Bool) (r s : Nat) : Prop := ∀ S : Nat → Prop, (∀ a, a < w 3 → op a = true → stp w 98 a r = true → S a) → (∀ a b, S a → a < w 3 → b < w 3 → op b = true → stp w a b r = true → S b) → S s
noncomputable def rch (w : Nat → Nat) (op : Nat → Bool) (r s : Nat) : Bool := @decide (s < w 3 ∧ Rch w op r s) (Classical.propDecidable _)
noncomputable def crowd (w : Nat → Nat) (s : Nat) : Nat := fb_ct (fun p => rch w (opn w 1) (w (185 + 7 * p)) s) (w 4)
noncomputable def costW (w : Nat → Nat) (way s : Nat) : Nat := if way = 1 then 1 + crowd w s else if way = 2 then lf w s else if way = 3 then 10 - lf w s else 1
noncomputable def rowW (w : Nat → Nat) (r wt way bank : Nat) : List Nat := Classical.epsilon (fun l => IsRow (w 3) (opn w wt) (fun s => opn w wt s && stp w s (197 - bank) r) (fun s => opn w wt s && stp w bank s r) (adw w r) (fun s => 32 * costW w way s + 1) l)
/-- the row from a bank, if there is a way -/
noncomputable def findW (w : Nat → Nat) (r wt way bank : Nat) : Option (List Nat) := if w 1 ≤ r then some [] else if rowW w r wt way bank = [] then none else some (rowW w r wt way bank)
def wearW (w : Nat → Nat) (l : List Nat) (wt : Nat) : Nat → Nat := l.foldl (fun w s => up w (16 + 7 * s) (w (16 + 7 * s) + wt)) w
def uStr (w : Nat → Nat) (u : Nat) : Nat := if w (190 + 7 * u) = 0 then w (185 + 7 * u) else min (w (185 + 7 * u)) (w (185 + 7 * (w (190 + 7 * u) - 1)))
def uSum (w : Nat → Nat) (k u : Nat) : Nat := w (185 + 7 * u + k) + (if w (190 + 7 * u) = 0 then 0 else w (185 + 7 * (w (190 + 7 * u) - 1) + k))
def lead (w : Nat → Nat) (u : Nat) : Bool := decide (w (190 + 7 * u) = 0 ∨ u < w (190 + 7 * u) - 1)
def uAt (w : Nat → Nat) (u b : Nat) : Bool := decide (w (191 + 7 * u) = b ∧ (w (190 + 7 * u) = 0 ∨ w (191 + 7 * (w (190 + 7 * u) - 1)) = b))
def putW (w : Nat → Nat) (u b : Nat) : Nat → Nat := if w (190 + 7 * u) = 0 then up w (191 + 7 * u) b else up (up w (191 + 7 * u) b) (191 + 7 * (w (190 + 7 * u) - 1)) b
/-- a unit goes from a bank to the other: the world behind, and how many stones -/
noncomputable def goW (w : Nat → Nat) (u way bank : Nat) : Option ((Nat → Nat) × Nat) :=
  if lead w u = true ∧ uAt w u bank = true then (match findW w (uStr w u) (uSum w 1 u) way bank with
    | none => none
    | some l => some (putW (wearW w l (uSum w 1 u)) u (197 - bank), l.length)) else none
/-- the outcome of an order: world, how many that must, worth -/
noncomputable def ordStep (way : Nat) (z : (Nat → Nat) × Nat × Nat) (u : Nat) : (Nat → Nat) × Nat × Nat :=
  match goW z.1 u way 98 with
  | none => z
  | some x => (x.1, z.2.1 + (if 0 < uSum z.1 3 u then 1 else 0), z.2.2 + uSum z.1 2 u)
noncomputable def ordOut (w : Nat → Nat) (way : Nat) (l : List Nat) : Nat × Nat := (l.foldl (ordStep way) (w, 0, 0)).2
def waiting (w : Nat → Nat) : List Nat := (List.range (w 4)).filter (fun u => lead w u && uAt w u 98)
/-- all orders of a row, in their own order -/
def permsF : Nat → List Nat → List (List Nat)
  | 0, _ => [[]]
  | n + 1, l => l.flatMap (fun x => (permsF n (l.erase x)).map (fun q => x :: q))
def better (a b : Nat × Nat) : Bool := decide (b.1 < a.1 ∨ (a.1 = b.1 ∧ b.2 < a.2))
noncomputable def ordPick (w : Nat → Nat) (way : Nat) (z : Option ((Nat × Nat) × List Nat)) (l : List Nat) : Option ((Nat × Nat) × List Nat) :=
  match z with
  | none => some (ordOut w way l, l)
  | some x => if better (ordOut w way l) x.1 = true then some (ordOut w way l, l) else some x
noncomputable def ordBest (w : Nat → Nat) (way : Nat) : Option ((Nat × Nat) × List Nat) := (permsF (waiting w).length (waiting w)).foldl (ordPick w way) none
/-! ===== THE INVARIANT ===== -/
/-- the links by each stride -/
def LKS (w : Nat → Nat) (μ : sm_Mem) : Prop := ∀ r, 1 ≤ r → r ≤ 9 → ∀ s, s < 32 → bt (μ.1 33 r) s = (decide (s < w 3) && stp w 98 s r) ∧ bt (μ.1 34 r) s = (decide (s < w 3) && stp w s 99 r) ∧ ∀ t, t < 24 → bt (μ.1 35 (24 * r + t)) s = adw w r t s
/-- the tape and the fault -/
def TP (μ : sm_Mem) : Prop := (∃ n, n ≤ 1600 ∧ μ.1 0 1 = nI n ∧ μ.1 146 5 = nI n ∧ ∀ k, k < n → μ.1 1 k = μ.1 150 k ∧ -128 ≤ (μ.1 1 k).toInt ∧ (μ.1 1 k).toInt < 128) ∧ μ.1 0 2 = μ.1 146 12 ∧ μ.1 0 3 = μ.1 146 13
/-- a slot -/
def SLj (j : Nat) (μ : sm_Mem) : Prop := (μ.1 (96 + 2 * j) 0 = 0 ∧ μ.1 168 j = mI 1) ∨ ∃ n wd, n ≤ 60 ∧ wd ≤ 3 ∧ μ.1 (96 + 2 * j) 0 = 1 ∧ μ.1 (96 + 2 * j) 1 = nI wd ∧ μ.1 169 j = nI wd ∧ μ.1 (96 + 2 * j) 2 = nI n ∧ μ.1 168 j = nI n ∧ ∀ i, i < 60 → μ.2.1 (97 + 2 * j) i = μ.2.1 170 (60 * j + i)
def SL (μ : sm_Mem) : Prop := ∀ j, j < 4 → SLj j μ
/-- an image -/
def IMk (k : Nat) (μ : sm_Mem) : Prop := μ.1 95 k = μ.1 149 k ∧ (μ.1 95 k = 0 ∨ (μ.1 95 k = 1 ∧ ∃ w, Good w ∧ RH (104 + 14 * k) w μ ∧ SH (114 + 14 * k) w μ ∧ ∀ i, i < 241 → μ.1 148 (241 * k + i) = eI i (w i)))
def IM (μ : sm_Mem) : Prop := ∀ k, k < 3 → IMk k μ
def RF (μ : sm_Mem) : Prop := μ.1 146 21 = 0 ∧ μ.1 146 39 = mI 1 ∧ μ.1 146 40 = mI 1
/-- the order that is held -/
def OH (w : Nat → Nat) (μ : sm_Mem) : Prop := μ.1 42 8 = mI 1 ∨ ∃ y m v l, y < 4 ∧ μ.1 42 8 = nI y ∧ (waiting w).length ≤ 6 ∧ ordBest w y = some ((m, v), l) ∧ l.length = (waiting w).length ∧ μ.1 42 7 = nI l.length ∧ μ.1 42 0 = nI m ∧ μ.1 42 1 = nI v ∧ ∀ i, i < l.length → μ.1 45 i = nI (l.getD i 0)
def Core (w : Nat → Nat) (μ : sm_Mem) : Prop := Good w ∧ RH 14 w μ ∧ SH 24 w μ ∧ WH 147 w μ ∧ LKS w μ ∧ TP μ ∧ SL μ ∧ IM μ ∧ RF μ
def Inv (μ : sm_Mem) : Prop := ∃ w, Core w μ ∧ OH w μ
/-! frames -/
theorem rh_fr {r : Nat} {w : Nat → Nat} {μ μ' : sm_Mem} (h : ∀ a, r ≤ a → a < r + 10 → μ'.1 a = μ.1 a) (H : RH r w μ) : RH r w μ' := by
  unfold RH at H ⊢
  rw [h r (by omega) (by omega), h (r + 1) (by omega) (by omega), h (r + 2) (by omega) (by omega), h (r + 3) (by omega) (by omega), h (r + 4) (by omega) (by omega), h (r + 5) (by omega) (by omega), h (r + 6) (by omega) (by omega), h (r + 7) (by omega) (by omega), h (r + 8) (by omega) (by omega), h (r + 9) (by omega) (by omega)]
  exact H
theorem sh_fr {c : Nat} {w : Nat → Nat} {μ μ' : sm_Mem} (h : ∀ a, c ≤ a → a < c + 4 → μ'.1 a = μ.1 a) (H : SH c w μ) : SH c w μ' := by
  unfold SH at H ⊢
  rw [h c (by omega) (by omega), h (c + 1) (by omega) (by omega), h (c + 2) (by omega) (by omega), h (c + 3) (by omega) (by omega)]
  exact H
theorem wh_fr {a : Nat} {w : Nat → Nat} {μ μ' : sm_Mem} (h : ∀ i, i < 241 → μ'.1 a i = μ.1 a i) (H : WH a w μ) : WH a w μ' := by
  intro i hi
  rw [h i hi]
  exact H i hi
theorem lks_fr {w : Nat → Nat} {μ μ' : sm_Mem} (h : ∀ a, 33 ≤ a → a < 36 → μ'.1 a = μ.1 a) (H : LKS w μ) : LKS w μ' := by
  unfold LKS at H ⊢
  rw [h 33 (by omega) (by omega), h 34 (by omega) (by omega), h 35 (by omega) (by omega)]
  exact H
theorem tp_fr {μ μ' : sm_Mem} (h0 : μ'.1 0 = μ.1 0) (h1 : μ'.1 1 = μ.1 1) (h2 : μ'.1 150 = μ.1 150) (h3 : μ'.1 146 5 = μ.1 146 5) (h4 : μ'.1 146 12 = μ.1 146 12) (h5 : μ'.1 146 13 = μ.1 146 13) (H : TP μ) : TP μ' := by
  unfold TP at H ⊢
  rw [h0, h1, h2, h3, h4, h5]
  exact H
theorem sl_fr {μ μ' : sm_Mem} (h : ∀ a, 96 ≤ a → a < 104 → μ'.1 a = μ.1 a) (h1 : μ'.1 168 = μ.1 168) (h2 : μ'.1 169 = μ.1 169) (h3 : ∀ a, 97 ≤ a → a < 104 → μ'.2.1 a = μ.2.1 a) (h4 : μ'.2.1 170 = μ.2.1 170) (H : SL μ) : SL μ' := by
  intro j hj
  have := H j hj
  unfold SLj at this ⊢
  rw [h (96 + 2 * j) (by omega) (by omega), h1, h2, h3 (97 + 2 * j) (by omega) (by omega), h4]
  exact this
theorem im_fr {μ μ' : sm_Mem} (h : ∀ a, 104 ≤ a → a < 146 → μ'.1 a = μ.1 a) (h1 : μ'.1 95 = μ.1 95) (h2 : μ'.1 148 = μ.1 148) (h3 : μ'.1 149 = μ.1 149) (H : IM μ) : IM μ' := by
  intro k hk
  obtain ⟨a, b⟩ := H k hk
  unfold IMk
  rw [h1, h2, h3]
  refine ⟨a, ?_⟩
  rcases b with b | ⟨b, w, g, r, s, i⟩
  · exact Or.inl b
  · exact Or.inr ⟨b, w, g, rh_fr (fun x q1 q2 => h x (by omega) (by omega)) r, sh_fr (fun x q1 q2 => h x (by omega) (by omega)) s, i⟩
theorem oh_fr {w : Nat → Nat} {μ μ' : sm_Mem} (h : μ'.1 42 = μ.1 42) (h1 : μ'.1 45 = μ.1 45) (H : OH w μ) : OH w μ' := by
  unfold OH at H ⊢
  rw [h, h1]
  exact H
/-- nothing of the core was touched -/
def Fr (μ μ' : sm_Mem) : Prop :=
  (∀ a, (a = 0 ∨ a = 1 ∨ (14 ≤ a ∧ a < 28) ∨ (32 ≤ a ∧ a < 36) ∨ (95 ≤ a ∧ a < 146) ∨ (148 ≤ a ∧ a < 151) ∨ a = 168 ∨ a = 169) → μ'.1 a = μ.1 a) ∧
  (∀ i, i < 241 → μ'.1 147 i = μ.1 147 i) ∧ (∀ k, (k = 5 ∨ k = 12 ∨ k = 13 ∨ k = 21 ∨ k = 39 ∨ k = 40) → μ'.1 146 k = μ.1 146 k) ∧
  (∀ a, ((97 ≤ a ∧ a < 104) ∨ a = 170) → μ'.2.1 a = μ.2.1 a)
theorem core_fr {w : Nat → Nat} {μ μ' : sm_Mem} (f : Fr μ μ') (H : Core w μ) : Core w μ' := by
  obtain ⟨f1, f2, f3, f4⟩ := f
  obtain ⟨g, r, s, wh, l, t, sl, im, rf⟩ := H
  refine ⟨g, rh_fr (fun a q1 q2 => f1 a (by omega)) r, sh_fr (fun a q1 q2 => f1 a (by omega)) s, wh_fr f2 wh, lks_fr (fun a q1 q2 => f1 a (by omega)) l, tp_fr (f1 0 (by omega)) (f1 1 (by omega)) (f1 150 (by omega)) (f3 5 (by omega)) (f3 12 (by omega)) (f3 13 (by omega)) t, sl_fr (fun a q1 q2 => f1 a (by omega)) (f1 168 (by omega)) (f1 169 (by omega)) (fun a q1 q2 => f4 a (by omega)) (f4 170 (by omega)) sl, im_fr (fun a q1 q2 => f1 a (by omega)) (f1 95 (by omega)) (f1 148 (by omega)) (f1 149 (by omega)) im, ?_⟩
  unfold RF
  rw [f3 21 (by omega), f3 39 (by omega), f3 40 (by omega)]
  exact rf
theorem fr_rf (μ : sm_Mem) : Fr μ μ := ⟨fun _ _ => rfl, fun _ _ => rfl, fun _ _ => rfl, fun _ _ => rfl⟩
theorem fr_tr {μ μ1 μ2 : sm_Mem} (h : Fr μ μ1) (h' : Fr μ1 μ2) : Fr μ μ2 := ⟨fun a q => (h'.1 a q).trans (h.1 a q), fun a q => (h'.2.1 a q).trans (h.2.1 a q), fun a q => (h'.2.2.1 a q).trans (h.2.2.1 a q), fun a q => (h'.2.2.2 a q).trans (h.2.2.2 a q)⟩
theorem rf_fr {μ μ' : sm_Mem} (h1 : μ'.1 146 21 = μ.1 146 21) (h2 : μ'.1 146 39 = μ.1 146 39) (h3 : μ'.1 146 40 = μ.1 146 40) (H : RF μ) : RF μ' := by
  unfold RF at H ⊢
  rw [h1, h2, h3]
  exact H
