/-! a day begins -/
def growG (Λ : LT) (s : ST) (x : Nat) : Nat := if lM Λ x = 9 then sG s x else if 8 ≤ sG s x then sG s x else if onN Λ s x = 8 then sG s x + 1 else sG s x
def growS (Λ : LT) (s : ST) (n : Nat) : ST := (sD s, fun x => if x < n then growG Λ s x else sG s x, sP s, sH s, sE s)
theorem onK_P {Λ : LT} {s s' : ST} (hp : sP s' = sP s) {x : Nat} : ∀ k b, onK Λ s' x k b = onK Λ s x k b := by
  intro k
  induction k with
  | zero => intro b; rfl
  | succ k ih => intro b; unfold onK; rw [hp, ih]
theorem onN_P {Λ : LT} {s s' : ST} (hp : sP s' = sP s) {x : Nat} : onN Λ s' x = onN Λ s x := onK_P hp 9 0
theorem growG_le {Λ : LT} {s : ST} {x : Nat} (h : sG s x ≤ 8) : growG Λ s x ≤ 8 := by
  unfold growG
  repeat' split
  all_goals omega
theorem growS_ok {Λ : LT} {s : ST} (h : SOK Λ s) (n : Nat) : SOK Λ (growS Λ s n) := by
  refine ⟨fun x hx => ?_, h.2⟩
  have g := h.1 x hx
  show (if x < n then growG Λ s x else sG s x) ≤ 8 ∧ (lM Λ x = 9 → (if x < n then growG Λ s x else sG s x) = 0)
  by_cases e : x < n
  · rw [if_pos e]
    refine ⟨growG_le g.1, fun e9 => ?_⟩
    unfold growG
    rw [if_pos e9]
    exact g.2 e9
  · rw [if_neg e]
    exact g
section GROW
variable {σ : Sg} {c : Nat} {Λ : LT} {s : ST}
theorem growS_s {n : Nat} (h : growG Λ s n = sG s n) : growS Λ s (n + 1) = growS Λ s n := by
  unfold growS
  congr 2
  funext x
  by_cases e : x < n
  · rw [if_pos e, if_pos (by omega)]
  · by_cases e2 : x = n
    · rw [e2, if_pos (by omega), if_neg (by omega), h]
    · rw [if_neg e, if_neg (by omega)]
theorem CC.grow {n : Nat} (h : CC σ c Λ (growS Λ s n)) (hn : n < lSq Λ) (hl : lnd c ≠ c + 1 ∧ lnd c + 1 ≠ c + 1 ∧ lnd c + 2 ≠ c + 1) (m9 : lM Λ n ≠ 9) (g : growG Λ s n = sG s n + 1) (ho : SOK Λ s) : CC (up σ (c + 1) n (nI (sG s n + 1))) c Λ (growS Λ s (n + 1)) := by
  obtain ⟨⟨l0, l1, l2, l3, l4, l5, l6, l7⟩, ⟨m0, m1, m2, m3, m4⟩, hΛ, hs⟩ := h
  refine ⟨?_, ⟨?_, ?_, ?_, ?_, ?_⟩, hΛ, growS_ok ho (n + 1)⟩
  · refine ⟨?_, ?_, ?_, ?_, ?_, ?_, ?_, ?_⟩
    · rw [up_n hl.1]; exact l0
    · rw [up_n hl.1]; exact l1
    · rw [up_n hl.1]; exact l2
    · rw [up_n hl.1]; exact l3
    · rw [up_n hl.1]; exact l4
    · rw [up_n hl.1]; exact l5
    · intro b hb; rw [up_n hl.2.1]; exact l6 b hb
    · intro b hb; rw [up_n hl.2.2]; exact l7 b hb
  · rw [up_n (by omega)]; exact m0
  · intro x hx
    by_cases e : x = n
    · rw [e, up_s, if_neg m9]
      show _ = nI (if n < n + 1 then growG Λ s n else sG s n)
      rw [if_pos (by omega), g]
    · rw [up_i e, m1 x hx]
      show nI (if lM Λ x = 9 then 9 else (if x < n then growG Λ s x else sG s x)) = nI (if lM Λ x = 9 then 9 else (if x < n + 1 then growG Λ s x else sG s x))
      by_cases e2 : x < n
      · rw [if_pos e2, if_pos (show x < n + 1 by omega)]
      · rw [if_neg e2, if_neg (show ¬ x < n + 1 by omega)]
  · intro b hb; rw [up_n (by omega)]; exact m2 b hb
  · intro b hb; rw [up_n (by omega)]; exact m3 b hb
  · intro b hb; rw [up_n (by omega)]; exact m4 b hb
theorem onI_m4 {n : Nat} (h : n ≤ 8) : onI n = (-4 : Int32) ↔ n = 8 := by
  unfold onI
  split
  · rename_i e
    exact ⟨fun _ => e, fun _ => rfl⟩
  · rename_i e
    exact ⟨fun z => absurd z (nI_nem4 (by omega)), fun z => absurd z e⟩
theorem jc_growLoop (ho : SOK Λ s) (hl : lnd c ≠ c + 1 ∧ lnd c + 1 ≠ c + 1 ∧ lnd c + 2 ≠ c + 1) : ∀ (k n j : Nat) (σ : Sg), n + k = lSq Λ → k < j → CC σ c Λ (growS Λ s n) → ∃ σ', J_X2_beginNextDay_b23 c j (nI n) σ = some ((), σ') ∧ CC σ' c Λ (growS Λ s (lSq Λ)) ∧ Fr (fun a => a = c + 1) σ σ' := by
  intro k
  induction k with
  | zero =>
    intro n j σ hn hj h
    obtain ⟨j, rfl⟩ : ∃ i, j = i + 1 := ⟨j - 1, by omega⟩
    have h36 := h.sq36
    have e : n = lSq Λ := by omega
    refine ⟨σ, ?_, by rw [← e]; exact h, Fr.rf⟩
    rw [J_X2_beginNextDay_b23, h.sq, if_pos ((nI_leI (by omega) (by omega)).mpr (by omega))]
  | succ k ih =>
    intro n j σ hn hj h
    obtain ⟨j, rfl⟩ : ∃ i, j = i + 1 := ⟨j - 1, by omega⟩
    have h36 := h.sq36
    have h8 := h.nb8
    have a1 : ∀ m : Nat, nI m + (1 : Int32) = nI (m + 1) := fun m => by rw [li_1, nI_add]
    have n36 : ¬ (36 : Int32) ≤ nI n := by rw [li_36, nI_leI (by omega) (by omega)]; omega
    have g0 : sG (growS Λ s n) n = sG s n := if_neg (Nat.lt_irrefl n)
    have g1 := (ho.1 n (by omega)).1
    rw [J_X2_beginNextDay_b23, h.sq, if_neg (fun z => by have := (nI_leI (by omega) (by omega)).mp z; omega), if_neg n36, if_pos ((inb_nI (by omega)).mpr (by omega)), nI_clamp (by omega), h.gr (by omega), g0]
    by_cases m9 : lM Λ n = 9
    · rw [if_pos m9, if_pos (by decide), a1]
      exact ih (n + 1) j σ (by omega) (by omega) (by rw [growS_s (by unfold growG; rw [if_pos m9])]; exact h)
    · rw [if_neg m9]
      by_cases g8 : 8 ≤ sG s n
      · rw [if_pos (show (8 : Int32) ≤ nI (sG s n) from by rw [li_8, nI_leI (by omega) (by omega)]; exact g8), a1]
        exact ih (n + 1) j σ (by omega) (by omega) (by rw [growS_s (by unfold growG; rw [if_neg m9, if_pos g8])]; exact h)
      · rw [if_neg (show ¬ (8 : Int32) ≤ nI (sG s n) from by rw [li_8, nI_leI (by omega) (by omega)]; exact g8), jc_occ h (by omega), bd1_s, onN_P (s := s) (s' := growS Λ s n) rfl]
        have o8 := onN_le (s := s) h8 n
        by_cases o : onN Λ s n = 8
        · have gg : growG Λ s n = sG s n + 1 := by unfold growG; rw [if_neg m9, if_neg g8, if_pos o]
          rw [if_pos ((onI_m4 o8).mpr o), if_pos ((inb_nI (by omega)).mpr (by omega)), if_pos ((inb_nI (by omega)).mpr (by omega)), a1, a1]
          obtain ⟨σ', r1, r2, r3⟩ := ih (n + 1) j _ (by omega) (by omega) (h.grow (by omega) hl m9 gg ho)
          exact ⟨σ', r1, r2, Fr.tr (Fr.up (P := fun a => a = c + 1) Fr.rf rfl) r3⟩
        · rw [if_neg (fun z => o ((onI_m4 o8).mp z)), a1]
          exact ih (n + 1) j σ (by omega) (by omega) (by rw [growS_s (by unfold growG; rw [if_neg m9, if_neg g8, if_neg o])]; exact h)
end GROW
