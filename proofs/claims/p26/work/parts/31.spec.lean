/-! the game on plain numbers: a land (squares, in a row, beasts, hunger borne, days of snow told, well (36: none); grass told or 9, kinds, villages, snow), a state (day, grass, places (36: off), hunger, ewes as bits) -/
abbrev LT : Type := (Nat × Nat × Nat × Nat × Nat × Nat) × (Nat → Nat) × (Nat → Nat) × (Nat → Nat) × (Nat → Nat)
def lSq (Λ : LT) : Nat := Λ.1.1
def lWd (Λ : LT) : Nat := Λ.1.2.1
def lNb (Λ : LT) : Nat := Λ.1.2.2.1
def lBe (Λ : LT) : Nat := Λ.1.2.2.2.1
def lSn (Λ : LT) : Nat := Λ.1.2.2.2.2.1
def lWl (Λ : LT) : Nat := Λ.1.2.2.2.2.2
def lM (Λ : LT) : Nat → Nat := Λ.2.1
def lKd (Λ : LT) : Nat → Nat := Λ.2.2.1
def lVl (Λ : LT) : Nat → Nat := Λ.2.2.2.1
def lSw (Λ : LT) : Nat → Nat := Λ.2.2.2.2
abbrev ST : Type := Nat × (Nat → Nat) × (Nat → Nat) × (Nat → Nat) × Nat
def sD (s : ST) : Nat := s.1
def sG (s : ST) : Nat → Nat := s.2.1
def sP (s : ST) : Nat → Nat := s.2.2.1
def sH (s : ST) : Nat → Nat := s.2.2.2.1
def sE (s : ST) : Nat := s.2.2.2.2
/-- what holds of a land that was laid -/
def LOK (Λ : LT) : Prop := (1 ≤ lWd Λ ∧ lWd Λ ≤ 6) ∧ (∃ r, 1 ≤ r ∧ r ≤ 6 ∧ lSq Λ = r * lWd Λ) ∧ (1 ≤ lNb Λ ∧ lNb Λ ≤ 8) ∧ (1 ≤ lBe Λ ∧ lBe Λ ≤ 9) ∧ lSn Λ ≤ 9 ∧ (lWl Λ = 36 ∨ lWl Λ < lSq Λ ∧ lM Λ (lWl Λ) ≠ 9) ∧ (∀ x, x < lSq Λ → lM Λ x ≤ 9) ∧ (∀ b, b < lNb Λ → lKd Λ b ≤ 3 ∧ lVl Λ b ≤ 1) ∧ (∀ k, k < lSn Λ → lSw Λ k ≤ 1)
/-- what holds of a state on it -/
def SOK (Λ : LT) (s : ST) : Prop := (∀ x, x < lSq Λ → sG s x ≤ 8 ∧ (lM Λ x = 9 → sG s x = 0)) ∧ (∀ b, b < lNb Λ → sP s b = 36 ∨ sP s b < lSq Λ ∧ lM Λ (sP s b) ≠ 9) ∧ (∀ a b, a < lNb Λ → b < lNb Λ → sP s a = sP s b → sP s a ≠ 36 → a = b) ∧ (∀ b, b < lNb Λ → sH s b ≤ 10 ∧ (sP s b ≠ 36 → sH s b ≤ lBe Λ)) ∧ sE s < 256
theorem LOK.sq {Λ : LT} (h : LOK Λ) : 1 ≤ lSq Λ ∧ lSq Λ ≤ 36 ∧ lWd Λ ≤ lSq Λ := by
  obtain ⟨⟨w1, w2⟩, ⟨r, r1, r2, e⟩, -⟩ := h
  rw [e]
  exact ⟨Nat.mul_pos r1 w1, Nat.mul_le_mul r2 w2, Nat.le_mul_of_pos_left _ r1⟩
/-- the ints that tell a place, a well -/
def plI (x : Nat) : Int32 := if x = 36 then -4 else nI x
def kdN (Λ : LT) (s : ST) (b : Nat) : Nat := if lKd Λ b = 2 ∧ (sE s).testBit b = true then 1 else lKd Λ b
/-- the class's land at cell l, its meadow at cell c; the reference's land, its row of 54 at place o of cell A -/
def LC (σ : Sg) (l : Nat) (Λ : LT) : Prop := σ l 0 = nI (lSq Λ) ∧ σ l 1 = nI (lWd Λ) ∧ σ l 3 = nI (lNb Λ) ∧ σ l 4 = plI (lWl Λ) ∧ σ l 5 = nI (lBe Λ) ∧ σ l 6 = nI (lSn Λ) ∧ (∀ b, b < lNb Λ → σ (l + 1) b = nI (lVl Λ b)) ∧ (∀ k, k < lSn Λ → σ (l + 2) k = nI (lSw Λ k))
def MC (σ : Sg) (c : Nat) (Λ : LT) (s : ST) : Prop := σ c 5 = nI (sD s) ∧ (∀ x, x < lSq Λ → σ (c + 1) x = nI (if lM Λ x = 9 then 9 else sG s x)) ∧ (∀ b, b < lNb Λ → σ (c + 2) b = plI (sP s b)) ∧ (∀ b, b < lNb Λ → σ (c + 3) b = nI (kdN Λ s b)) ∧ (∀ b, b < lNb Λ → σ (c + 4) b = nI (sH s b))
