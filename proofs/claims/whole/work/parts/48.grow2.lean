/-! a day begins, in the model -/
section GROW2
variable {σ : Sg} {Λ : LT} {s : ST}
theorem MS.grow {n v : Nat} (h : MS σ Λ (growS Λ s n)) (hn : n < lSq Λ) (g : growG Λ s n = v) (ho : SOK Λ s) : MS (up σ 157 (1 + n) (nI v)) Λ (growS Λ s (n + 1)) := by
  obtain ⟨⟨l0, l1, l2, l3, l4, l5, l6, l7, l8, l9⟩, ⟨m0, m1, m2, m3, m4⟩, hΛ, hs⟩ := h
  have h36 := hΛ.sq.2.1
  refine ⟨⟨?_, ?_, ?_, ?_, ?_, ?_, ?_, ?_, ?_, ?_⟩, ⟨?_, ?_, ?_, ?_, ?_⟩, hΛ, growS_ok ho (n + 1)⟩
  · rw [up_n (by decide)]; exact l0
  · rw [up_n (by decide)]; exact l1
  · rw [up_n (by decide)]; exact l2
  · rw [up_n (by decide)]; exact l3
  · rw [up_n (by decide)]; exact l4
  · rw [up_n (by decide)]; exact l5
  · intro x hx; rw [up_n (by decide)]; exact l6 x hx
  · intro x hx; rw [up_n (by decide)]; exact l7 x hx
  · intro x hx; rw [up_n (by decide)]; exact l8 x hx
  · intro x hx; rw [up_n (by decide)]; exact l9 x hx
  · rw [up_i (by omega)]; exact m0
  · intro x hx
    by_cases e : x = n
    · rw [e, show 0 + 1 + n = 1 + n by omega, up_s]
      show _ = nI (if n < n + 1 then growG Λ s n else sG s n)
      rw [if_pos (by omega), g]
    · rw [up_i (by omega), m1 x hx]
      show nI (if x < n then growG Λ s x else sG s x) = nI (if x < n + 1 then growG Λ s x else sG s x)
      by_cases e2 : x < n
      · rw [if_pos e2, if_pos (show x < n + 1 by omega)]
      · rw [if_neg e2, if_neg (show ¬ x < n + 1 by omega)]
  · intro b hb; rw [up_i (by omega)]; exact m2 b hb
  · intro b hb; rw [up_i (by omega)]; exact m3 b hb
  · rw [up_i (by omega)]; exact m4
theorem jm_growLoop (ho : SOK Λ s) (hd : sD s % 9 = 0) (hd2 : sD s < 2 ^ 30) : ∀ (k n j : Nat) (σ : Sg), n + k = lSq Λ → k < j → MS σ Λ (growS Λ s n) → ∃ σ', J_X8_nextDay_b12 j (nI n) σ = some ((), σ') ∧ MS σ' Λ (growS Λ s (lSq Λ)) ∧ Fr (fun a => a = 157) σ σ' := by
  intro k
  induction k with
  | zero =>
    intro n j σ hn hj h
    obtain ⟨j, rfl⟩ : ∃ i, j = i + 1 := ⟨j - 1, by omega⟩
    have h36 := h.sq36
    have e : n = lSq Λ := by omega
    refine ⟨σ, ?_, by rw [← e]; exact h, Fr.rf⟩
    rw [J_X8_nextDay_b12, h.sq, if_pos ((nI_leI (by omega) (by omega)).mpr (by omega))]
  | succ k ih =>
    intro n j σ hn hj h
    obtain ⟨j, rfl⟩ : ∃ i, j = i + 1 := ⟨j - 1, by omega⟩
    have h36 := h.sq36
    have h8 := h.nb8
    have hn' : n < lSq Λ := by omega
    have a0 : (1 : Int32) + nI n = nI (1 + n) := by rw [li_1, nI_add]
    have a1 : ∀ m : Nat, nI m + (1 : Int32) = nI (m + 1) := fun m => by rw [li_1, nI_add]
    have az : ∀ m : Nat, nI m + (0 : Int32) = nI m := fun m => by rw [li_0, nI_add]; rfl
    have i54 : inb (nI (1 + n)) 54 = true := (inb_nI (by omega)).mpr (by omega)
    have g0 : sG (growS Λ s n) n = sG s n := if_neg (Nat.lt_irrefl n)
    have g1 := (ho.1 n (by omega)).1
    have m1 := h.2.2.1.2.2.2.2.2.2.1 n hn'
    have q0 : σ 157 0 = nI (sD s) := h.2.1.1
    have q1 : σ 157 (1 + n) = nI (sG s n) := by rw [h.gr hn', g0]
    have go : ∀ v, growG Λ s n = v → ∃ σ', J_X8_nextDay_b12 j (nI (n + 1)) (up σ 157 (1 + n) (nI v)) = some ((), σ') ∧ MS σ' Λ (growS Λ s (lSq Λ)) ∧ Fr (fun a => a = 157) σ σ' := by
      intro v hv
      obtain ⟨σ', r1, r2, r3⟩ := ih (n + 1) j _ (by omega) (by omega) (h.grow hn' hv ho)
      exact ⟨σ', r1, r2, Fr.tr (Fr.up (P := fun a => a = 157) Fr.rf rfl) r3⟩
    rw [J_X8_nextDay_b12, h.sq, if_neg (fun z => by have := (nI_leI (by omega) (by omega)).mp z; omega), q0, li_9, rmI_nI (by omega) (by omega), hd, if_pos (show nI 0 = (0 : Int32) from rfl), a0, if_pos i54, if_pos ((inb_nI (by omega)).mpr (by omega)), nI_clamp (n := n) (by omega), nI_clamp (n := 1 + n) (by omega), h.m hn', q1, if_pos i54, a1, a1, az]
    by_cases m9 : lM Λ n = 9
    · rw [if_pos (neq rfl m9)]
      exact go _ (by unfold growG; rw [if_pos m9])
    · have o8 := onN_le (s := s) h8 n
      rw [if_neg (nne rfl (by omega) (by omega) m9), jm_onIt h (by omega), bd1_s, onN_P (s := s) (s' := growS Λ s n) rfl]
      by_cases o : onN Λ s n = 8
      · rw [(onI_m4 o8).mpr o, if_neg (by decide)]
        rw [if_pos i54]
        by_cases g8 : 8 ≤ sG s n
        · rw [if_pos (show (8 : Int32) ≤ nI (sG s n) from by rw [li_8, nI_leI (by omega) (by omega)]; exact g8)]
          exact go _ (by unfold growG; rw [if_neg m9, if_pos g8])
        · rw [if_neg (show ¬ (8 : Int32) ≤ nI (sG s n) from by rw [li_8, nI_leI (by omega) (by omega)]; exact g8), if_pos i54]
          exact go _ (by unfold growG; rw [if_neg m9, if_neg g8, if_pos o])
      · have e : onI (onN Λ s n) = nI (onN Λ s n) := if_neg o
        rw [e, if_pos (nI_ge0 (by omega))]
        exact go _ (by
          unfold growG
          rw [if_neg m9]
          rw [if_neg o]
          split <;> rfl)
end GROW2
