/-! all graze, in the model -/
section GRAZE2
variable {σ : Sg} {c : Nat} {Λ : LT} {s : ST}
theorem MS.be (h : MS σ Λ s) : σ 141 7 = nI (lBe Λ) := h.1.2.2.2.2.1
theorem jm_grazeLoop (Λ : LT) (s0 : ST) : ∀ (k n j : Nat) (σ : Sg), n + k = lNb Λ → k < j → MS σ Λ (graK Λ s0 n) → ∃ σ', J_X8_grazes_b2 j (nI n) σ = some ((), σ') ∧ MS σ' Λ (graS Λ s0) ∧ Fr (fun a => a = 157) σ σ' := by
  intro k
  induction k with
  | zero =>
    intro n j σ hn hj h
    obtain ⟨j, rfl⟩ : ∃ i, j = i + 1 := ⟨j - 1, by omega⟩
    have h8 := h.nb8
    have e : n = lNb Λ := by omega
    refine ⟨σ, ?_, by unfold graS; rw [← e]; exact h, Fr.rf⟩
    rw [J_X8_grazes_b2, h.nb, if_pos ((nI_leI (by omega) (by omega)).mpr (by omega))]
  | succ k ih =>
    intro n j σ hn hj h
    obtain ⟨j, rfl⟩ : ∃ i, j = i + 1 := ⟨j - 1, by omega⟩
    have h36 := h.sq36
    have h8 := h.nb8
    have hb : n < lNb Λ := by omega
    have a1 : ∀ m : Nat, nI m + (1 : Int32) = nI (m + 1) := fun m => by rw [li_1, nI_add]
    have a37 : ∀ m : Nat, (37 : Int32) + nI m = nI (37 + m) := fun m => by rw [li_37, nI_add]
    have a45 : ∀ m : Nat, (45 : Int32) + nI m = nI (45 + m) := fun m => by rw [li_45, nI_add]
    have a01 : ∀ m : Nat, (1 : Int32) + nI m = nI (1 + m) := fun m => by rw [li_1, nI_add]
    have i37 : inb (nI (37 + n)) 54 = true := (inb_nI (by omega)).mpr (by omega)
    have i45 : inb (nI (45 + n)) 54 = true := (inb_nI (by omega)).mpr (by omega)
    have b9 := h.2.2.1.2.2.2.1
    rw [J_X8_grazes_b2, h.nb, if_neg (fun z => by have := (nI_leI (by omega) (by omega)).mp z; omega), a37, if_pos i37, nI_clamp (n := 37 + n) (by omega), h.pl hb, a01, a45, a1]
    have go : ∀ σ', MS σ' Λ (graB Λ (graK Λ s0 n) n) → Fr (fun a => a = 157) σ σ' → ∃ σ'', J_X8_grazes_b2 j (nI (n + 1)) σ' = some ((), σ'') ∧ MS σ'' Λ (graS Λ s0) ∧ Fr (fun a => a = 157) σ σ'' := by
      intro σ' z f
      obtain ⟨σ'', r1, r2, r3⟩ := ih (n + 1) j σ' (by omega) (by omega) z
      exact ⟨σ'', r1, r2, f.tr r3⟩
    generalize graK Λ s0 n = s at h go ⊢
    have ok := graB_ok h.2.2.1 h.2.2.2 hb
    unfold graB at go ok
    rcases h.2.2.2.2.1 n hb with e | ⟨e1, e2⟩
    · rw [if_pos e] at go
      rw [if_pos (neq li_36 e)]
      unfold J_X8_grazes_b62
      rw [if_pos (neq li_36 e), a1]
      exact go σ h Fr.rf
    · have e : sP s n ≠ 36 := by omega
      have g8 := (h.2.2.2.1 _ e1).1
      have u10 := (h.2.2.2.2.2.2.1 n hb).1
      have ig : inb (nI (1 + sP s n)) 54 = true := (inb_nI (by omega)).mpr (by omega)
      have ne36 : ¬ nI (sP s n) = (36 : Int32) := nne li_36 (by omega) (by omega) e
      rw [if_neg e] at go ok
      rw [if_neg ne36, if_pos ig, nI_clamp (n := 1 + sP s n) (by omega), h.gr e1]
      by_cases g0 : sG s (sP s n) = 0
      · rw [if_pos g0] at go ok
        rw [if_pos (show nI (sG s (sP s n)) ≤ 0 from by rw [g0]; decide)]
        unfold J_X8_grazes_b62
        rw [if_neg ne36, a45, if_pos i45, if_pos i45, if_pos i45, nI_clamp (n := 45 + n) (by omega), up_s, h.hu hb, a1, up_n (by decide), h.be, a37, if_pos i37, if_pos i37, nI_clamp (n := 37 + n) (by omega), a1]
        have F2 : ∀ v w, Fr (fun a => a = 157) σ (up (up σ 157 (45 + n) v) 157 (37 + n) w) := fun v w => Fr.up (P := fun a => a = 157) (Fr.up (P := fun a => a = 157) Fr.rf rfl) rfl
        by_cases u : sH s n + 1 ≤ lBe Λ
        · rw [if_pos u] at go ok
          rw [if_pos ((nI_leI (by omega) (by omega)).mpr u)]
          exact go _ ⟨LM.up (by omega) (LM.up (by omega) h.1), MM.upP (MM.upH (v := sH s n + 1) h.2.1 h36 h8 hb) h36 h8 hb, h.2.2.1, ok⟩ (F2 _ _)
        · rw [if_neg u] at go ok
          rw [if_neg (fun z => u ((nI_leI (by omega) (by omega)).mp z))]
          exact go _ ⟨LM.up (by omega) (LM.up (by omega) h.1), MM.upP (v := 36) (MM.upH (v := sH s n + 1) h.2.1 h36 h8 hb) h36 h8 hb, h.2.2.1, ok⟩ (F2 _ _)
      · rw [if_neg g0] at go ok
        rw [if_neg (show ¬ nI (sG s (sP s n)) ≤ 0 from by rw [li_0, nI_leI (by omega) (by omega)]; omega), if_pos ig, if_pos ig, if_pos i45, li_1, nI_subI (by omega), nI_clamp (n := 45 + n) (by omega)]
        exact go _ ⟨LM.up (by omega) (LM.up (by omega) h.1), MM.upH (v := 0) (MM.upG (v := sG s (sP s n) - 1) h.2.1 h36 h8 e1) h36 h8 hb, h.2.2.1, ok⟩ (Fr.up (P := fun a => a = 157) (Fr.up (P := fun a => a = 157) Fr.rf rfl) rfl)
theorem jm_graze (h : MS σ Λ s) : ∃ σ', J_X8_grazes σ = some ((), σ') ∧ MS σ' Λ (graS Λ s) ∧ Fr (fun a => a = 157) σ σ' := by
  have h8 := h.nb8
  exact jm_grazeLoop Λ s (lNb Λ) 0 FU σ (by omega) (by rw [FU_eq]; omega) h
theorem jm_nextDay (h : MS σ Λ s) (hd : sD s < 2 ^ 29) : ∃ σ', J_X8_nextDay σ = some ((), σ') ∧ MS σ' Λ (nextS Λ s) ∧ Fr (fun a => a = 157) σ σ' := by
  have h36 := h.sq36
  have h8 := h.nb8
  have q : σ 157 0 = nI (sD s) := h.2.1.1
  have a1 : nI (sD s) + (1 : Int32) = nI (sD s + 1) := by rw [li_1, nI_add]
  have H : MS (up σ 157 0 (nI (sD s + 1))) Λ (dayS s) := ⟨LM.up (by omega) h.1, MM.upD h.2.1 h36 h8, h.2.2.1, h.2.2.2⟩
  unfold J_X8_nextDay nextS
  rw [q, a1]
  by_cases e : (sD s + 1) % 9 = 0
  · rw [if_pos e]
    obtain ⟨σ', r1, r2, r3⟩ := jm_growLoop (s := dayS s) h.2.2.2 e (by show sD s + 1 < 2 ^ 30; omega) (lSq Λ) 0 FU _ (by omega) (by rw [FU_eq]; omega) H
    exact ⟨σ', r1, r2, Fr.tr (Fr.up (P := fun a => a = 157) Fr.rf rfl) r3⟩
  · rw [if_neg e]
    refine ⟨_, ?_, H, Fr.up (P := fun a => a = 157) Fr.rf rfl⟩
    have s1 := h.2.2.1.sq.1
    rw [FU_eq]
    show J_X8_nextDay_b12 (999999999999999 + 1) 0 _ = _
    rw [J_X8_nextDay_b12, H.sq, if_neg (fun z => by have := (nI_leI (a := lSq Λ) (b := 0) (by omega) (by omega)).mp z; omega), up_s, li_9, rmI_nI (by omega) (by omega), if_neg (nne li_0 (by omega) (by omega) e)]
end GRAZE2
