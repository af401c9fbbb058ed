/-! all that one can come to: the model's loops -/
theorem setE_id : ∀ E, E < 256 → ∀ b, b < 8 → setE E b (E.testBit b) = E := by decide +kernel
section WALK6
variable {σ : Sg} {Λ : LT} {s : ST} {b o0 : Nat}
theorem turn_set {E x : Nat} {e : Bool} : turnE Λ b x (setE E b e) = setE E b (e || (decide (lKd Λ b = 2) && endN Λ (lVl Λ b) x)) := by
  unfold turnE setE
  by_cases h : lKd Λ b = 2 ∧ endN Λ (lVl Λ b) x = true
  · rw [if_pos h]
    have q : (decide (lKd Λ b = 2) && endN Λ (lVl Λ b) x) = true := by simp [h.1, h.2]
    rw [q, Bool.or_true, if_pos rfl]
    cases e
    · rw [if_neg (by decide)]
    · rw [if_pos rfl, Nat.or_assoc, Nat.or_self]
  · rw [if_neg h]
    have q : (decide (lKd Λ b = 2) && endN Λ (lVl Λ b) x) = false := by
      cases y : (decide (lKd Λ b = 2) && endN Λ (lVl Λ b) x)
      · rfl
      · simp at y; exact absurd y h
    rw [q, Bool.or_false]
end WALK6
