/-! the text, read by the model: all items -/
section TEXT7
variable {σ : Sg} {L : Nat → Nat} {t h : Nat} {r : RT}
/-- where the text is faulty, both sides; what is told, both sides -/
def faR (L : Nat → Nat) (t : Nat) : Option Nat × RT := allR L t 201 r0 0
theorem jc_firstFault (c : TC σ L t) : ∃ σ', J_X5_firstFault σ = some (onI4 (faR L t).1, σ') ∧ ((faR L t).1 = none → RC σ' (faR L t).2 ∧ ROK (faR L t).2) ∧ Fs Rcl σ σ' := by
  unfold J_X5_firstFault J_X1_clear
  rw [bd2_s]
  have F : Fs Rcl σ (up (up (up (up (up (up (up (up (up σ 6 0 0) 6 1 0) 6 2 0) 6 3 0) 6 4 (-4)) 6 5 4) 6 6 0) 9 5 0) 4 4 0) :=
    Fs.up (P := Rcl) (Fs.up (P := Rcl) (Fs.up (P := Rcl) (Fs.up (P := Rcl) (Fs.up (P := Rcl) (Fs.up (P := Rcl) (Fs.up (P := Rcl) (Fs.up (P := Rcl) (Fs.up (P := Rcl) Fs.rf (Or.inr ⟨by decide, by decide⟩)) (Or.inr ⟨by decide, by decide⟩)) (Or.inr ⟨by decide, by decide⟩)) (Or.inr ⟨by decide, by decide⟩)) (Or.inr ⟨by decide, by decide⟩)) (Or.inr ⟨by decide, by decide⟩)) (Or.inr ⟨by decide, by decide⟩)) (Or.inr ⟨by decide, by decide⟩)) (Or.inl ⟨rfl, rfl⟩)
  have rc : RC (up (up (up (up (up (up (up (up (up σ 6 0 0) 6 1 0) 6 2 0) 6 3 0) 6 4 (-4)) 6 5 4) 6 6 0) 9 5 0) 4 4 0) r0 := by
    refine ⟨rfl, rfl, rfl, rfl, rfl, rfl, rfl, fun x hx => absurd hx (Nat.not_lt_zero x), fun b hb => absurd hb (Nat.not_lt_zero b), fun k hk => absurd hk (Nat.not_lt_zero k), rfl⟩
  obtain ⟨σ', a, b, d⟩ := jc_fault22 (L := L) (t := t) 201 0 0 FU r0 _ rfl (by rw [FU_eq]; decide) (Nat.le_refl _) (Or.inl (by decide)) (c.fr F) rc r0_ok (show (up (up (up (up (up (up (up (up (up σ 6 0 0) 6 1 0) 6 2 0) 6 3 0) 6 4 (-4)) 6 5 4) 6 6 0) 9 5 0) 4 4 0) 4 4 = nI 0 from rfl) (by decide)
  exact ⟨σ', a, b, F.tr d⟩
end TEXT7
