section DAY2
variable {σ : Sg} {c : Nat} {Λ : LT} {s : ST}
theorem jc_nextDay (h : CC σ c Λ s) (hd : sD s < 2 ^ 30) (hl : lnd c ≠ c ∧ lnd c + 1 ≠ c ∧ lnd c + 2 ≠ c) (hl' : lnd c ≠ c + 1 ∧ lnd c + 1 ≠ c + 1 ∧ lnd c + 2 ≠ c + 1) : ∃ σ', J_X2_beginNextDay c σ = some ((), σ') ∧ CC σ' c Λ (nextS Λ s) ∧ Fr (fun a => a = c ∨ a = c + 1) σ σ' := by
  have h36 := h.sq36
  have q : σ c 5 = nI (sD s) := h.2.1.1
  have a1 : nI (sD s) + (1 : Int32) = nI (sD s + 1) := by rw [li_1, nI_add]
  unfold J_X2_beginNextDay nextS
  rw [q, a1, up_s, li_9, rmI_nI (by omega) (by omega)]
  by_cases e : (sD s + 1) % 9 = 0
  · rw [if_pos (neq li_0 e), if_pos e]
    obtain ⟨σ', r1, r2, r3⟩ := jc_growLoop (s := dayS s) h.2.2.2 hl' (lSq Λ) 0 FU _ (by omega) (by rw [FU_eq]; omega) (h.day hl)
    exact ⟨σ', r1, r2, Fr.tr (Fr.up (P := fun a => a = c ∨ a = c + 1) Fr.rf (Or.inl rfl)) (r3.mono fun a z => Or.inr z)⟩
  · rw [if_neg (nne li_0 (by omega) (by omega) e), if_neg e]
    exact ⟨_, rfl, h.day hl, Fr.up (P := fun a => a = c ∨ a = c + 1) Fr.rf (Or.inl rfl)⟩
end DAY2
