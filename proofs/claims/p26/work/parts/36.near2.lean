/-! the reference's way of asking for a ram -/
section NEAR2
variable {σ : Sg} {Λ : LT} {s : ST}
theorem onN_eq (hΛ : LOK Λ) (hs : SOK Λ s) {b : Nat} (hb : b < lNb Λ) (h36 : sP s b ≠ 36) : onN Λ s (sP s b) = b := by
  rcases onN_spec Λ s (sP s b) hΛ.2.2.1.2 with ⟨-, h⟩ | ⟨h1, h2⟩
  · exact absurd rfl (h b hb)
  · exact hs.2.2.1 _ b h1 hb h2 (by rw [h2]; exact h36)
/-- the ram that is next to x that way -/
def ramW (Λ : LT) (s : ST) (x v way : Nat) : Bool := decide (nextN Λ x way ≠ 36) && (decide (onN Λ s (nextN Λ x way) ≠ 8) && (decide (lVl Λ (onN Λ s (nextN Λ x way)) ≠ v) && decide (kdN Λ s (onN Λ s (nextN Λ x way)) = 0)))
theorem near_iff (hΛ : LOK Λ) (hs : SOK Λ s) {x v : Nat} (hx : x < lSq Λ) : nearN Λ s x v = true ↔ ∃ way, way < 4 ∧ ramW Λ s x v way = true := by
  have h8 := hΛ.2.2.1.2
  unfold nearN
  rw [nearK_iff h8 9 0 rfl]
  constructor
  · rintro ⟨a, -, h2, q1, q2, q3, q4⟩
    have hy : sP s a < lSq Λ := by rcases hs.2.1 a h2 with z | z <;> omega
    obtain ⟨way, w1, w2⟩ := (adjN hΛ hy hx).mp q4
    refine ⟨way, w1, ?_⟩
    simp only [ramW, Bool.and_eq_true, decide_eq_true_eq]
    rw [w2, onN_eq hΛ hs h2 q1]
    exact ⟨q1, by omega, q3, q2⟩
  · rintro ⟨way, w1, h⟩
    simp only [ramW, Bool.and_eq_true, decide_eq_true_eq] at h
    obtain ⟨q1, q2, q3, q4⟩ := h
    rcases onN_spec Λ s (nextN Λ x way) h8 with ⟨z, -⟩ | ⟨z1, z2⟩
    · exact absurd z q2
    · have hy : nextN Λ x way < lSq Λ := by rcases nextN_lt hΛ hx w1 with z | z <;> omega
      refine ⟨_, Nat.zero_le _, z1, by rw [z2]; exact q1, q4, q3, ?_⟩
      rw [z2]
      exact (adjN hΛ hy hx).mpr ⟨way, w1, rfl⟩
def nearWK (Λ : LT) (s : ST) (x v : Nat) : Nat → Nat → Bool
  | 0, _ => false
  | k + 1, way => ramW Λ s x v way || nearWK Λ s x v k (way + 1)
theorem nearWK_iff {x v : Nat} : ∀ (k way : Nat), nearWK Λ s x v k way = true ↔ ∃ a, way ≤ a ∧ a < way + k ∧ ramW Λ s x v a = true
  | 0, way => ⟨fun h => (by cases h), fun ⟨a, h1, h2, _⟩ => (by omega)⟩
  | k + 1, way => by
    unfold nearWK
    rw [Bool.or_eq_true, nearWK_iff k (way + 1)]
    constructor
    · rintro (h | ⟨a, h1, h2, h3⟩)
      · exact ⟨way, Nat.le_refl _, by omega, h⟩
      · exact ⟨a, by omega, by omega, h3⟩
    · rintro ⟨a, h1, h2, h3⟩
      by_cases e : a = way
      · exact Or.inl (e ▸ h3)
      · exact Or.inr ⟨a, by omega, by omega, h3⟩
theorem onI_lt0 {n : Nat} (h : n ≤ 8) : onI n < 0 ↔ n = 8 := by
  unfold onI
  by_cases e : n = 8
  · rw [if_pos e]; exact ⟨fun _ => e, fun _ => by decide⟩
  · rw [if_neg e]; exact ⟨fun z => absurd z (nI_nlt0 (by omega)), fun z => absurd z e⟩
theorem onN_le (h8 : lNb Λ ≤ 8) (x : Nat) : onN Λ s x ≤ 8 := by
  rcases onN_spec Λ s x h8 with ⟨z, -⟩ | ⟨z, -⟩ <;> omega
end NEAR2
