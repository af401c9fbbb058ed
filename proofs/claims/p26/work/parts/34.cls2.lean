/-! the class: the square next to one, steps -/
section CLS2
variable {σ : Sg} {c : Nat} {Λ : LT} {s : ST}
theorem jc_beside (h : CC σ c Λ s) {x way : Nat} (hx : x < lSq Λ) (hw : way < 4) : J_X1_beside (lnd c) (nI x) (nI way) σ = some (plI (nextN Λ x way)) := by
  have h36 := h.sq36
  have hl := nextN_lt h.2.2.1 hx hw
  have hW := h.2.2.1.1
  have q0 : x % lWd Λ < lWd Λ := Nat.mod_lt _ hW.1
  have n0 : ¬ lWd Λ = 0 := by omega
  have n1 : ¬ lSq Λ ≤ x := by omega
  have n2 : 1 ≤ lWd Λ := hW.1
  rcases (show way = 0 ∨ way = 1 ∨ way = 2 ∨ way = 3 by omega) with rfl | rfl | rfl | rfl
  · simp (disch := omega) only [J_X1_beside, nI_nlt0, ← li_0, ↓reduceIte, h.sq, h.wd, nI_leI, n1, li_1, n2, nextN, nextW]
    by_cases h1 : x < lWd Λ
    · have h2 : ¬ lWd Λ ≤ x := by omega
      simp only [h1, h2, ↓reduceIte, plI]
    · have h2 : lWd Λ ≤ x := by omega
      simp (disch := omega) only [h1, h2, ↓reduceIte, nI_subI]
      rw [plI_of (by omega)]
  · simp (disch := omega) only [J_X1_beside, ↓reduceIte, h.sq, h.wd, nI_leI, nI_ltI, Nat.not_lt_zero, n1, li_0, li_1, n2, nI_inj, n0, nI_subI, rmI_nI, nI_add, nextN, nextW, (by decide : ¬ (1 : Nat) = 0)]
    by_cases h1 : x % lWd Λ = lWd Λ - 1
    · simp only [h1, Nat.le_refl, ↓reduceIte, plI]
    · have h2 : ¬ lWd Λ - 1 ≤ x % lWd Λ := by omega
      have h3 := eastN h.2.2.1 hx h2
      simp only [h1, h2, ↓reduceIte]
      rw [plI_of (by omega)]
  · simp (disch := omega) only [J_X1_beside, ↓reduceIte, h.sq, h.wd, nI_leI, nI_ltI, Nat.not_lt_zero, n1, li_0, li_1, li_2, n2, nI_inj, n0, nI_add, nextN, nextW, (by decide : ¬ (2 : Nat) = 0), (by decide : ¬ (2 : Nat) = 1)]
    by_cases h1 : lSq Λ ≤ x + lWd Λ
    · have h2 : ¬ x + lWd Λ < lSq Λ := by omega
      simp only [h1, h2, ↓reduceIte, plI]
    · have h2 : x + lWd Λ < lSq Λ := by omega
      simp only [h1, h2, ↓reduceIte]
      rw [plI_of (by omega)]
  · simp (disch := omega) only [J_X1_beside, ↓reduceIte, h.sq, h.wd, nI_leI, nI_ltI, Nat.not_lt_zero, n1, li_0, li_1, li_2, li_3, n2, nI_inj, n0, rmI_nI, nextN, nextW, (by decide : ¬ (3 : Nat) = 0), (by decide : ¬ (3 : Nat) = 1), (by decide : ¬ (3 : Nat) = 2)]
    by_cases h1 : x % lWd Λ = 0
    · simp only [h1, ↓reduceIte, plI]
    · have h4 : 1 ≤ x := Nat.one_le_iff_ne_zero.mpr (fun e => h1 (by rw [e]; exact Nat.zero_mod _))
      simp (disch := omega) only [h1, ↓reduceIte, nI_subI]
      rw [plI_of (by omega)]
theorem jc_besideOff {x : Int32} {way : Int32} (hx : x < 0) : J_X1_beside (lnd c) x way σ = some (-4) := by
  simp only [J_X1_beside, hx, ↓reduceIte]
end CLS2
