/-! the next day, both sides -/
def dayS (s : ST) : ST := (sD s + 1, sG s, sP s, sH s, sE s)
def nextS (Λ : LT) (s : ST) : ST := if (sD s + 1) % 9 = 0 then growS Λ (dayS s) (lSq Λ) else dayS s
section DAY
variable {σ : Sg} {c : Nat} {Λ : LT} {s : ST}
theorem growS_0 : growS Λ s 0 = s := rfl
theorem CC.day (h : CC σ c Λ s) (hl : lnd c ≠ c ∧ lnd c + 1 ≠ c ∧ lnd c + 2 ≠ c) : CC (up σ c 5 (nI (sD s + 1))) c Λ (dayS s) := by
  obtain ⟨⟨l0, l1, l2, l3, l4, l5, l6, l7⟩, ⟨m0, m1, m2, m3, m4⟩, hΛ, hs⟩ := h
  refine ⟨⟨?_, ?_, ?_, ?_, ?_, ?_, ?_, ?_⟩, ⟨?_, ?_, ?_, ?_, ?_⟩, hΛ, hs⟩
  · rw [up_n hl.1]; exact l0
  · rw [up_n hl.1]; exact l1
  · rw [up_n hl.1]; exact l2
  · rw [up_n hl.1]; exact l3
  · rw [up_n hl.1]; exact l4
  · rw [up_n hl.1]; exact l5
  · intro b hb; rw [up_n hl.2.1]; exact l6 b hb
  · intro b hb; rw [up_n hl.2.2]; exact l7 b hb
  · rw [up_s]; rfl
  · intro x hx; rw [up_n (by omega)]; exact m1 x hx
  · intro b hb; rw [up_n (by omega)]; exact m2 b hb
  · intro b hb; rw [up_n (by omega)]; exact m3 b hb
  · intro b hb; rw [up_n (by omega)]; exact m4 b hb
end DAY
