/-! calls: again, starves -/
def agaK (Λ : LT) (x : Nat) : Nat → Nat → ST → Int32
  | 0, _, _ => -4
  | k + 1, i, s => if sG s x = 0 then agaK Λ x k (i + 1) (passS Λ s) else nI i
def strK (Λ : LT) (b : Nat) : Nat → Nat → ST → Int32
  | 0, _, _ => -4
  | k + 1, i, s => if sP (passS Λ s) b = 36 then nI i else strK Λ b k (i + 1) (passS Λ s)
section AGAIN
variable {σ : Sg} {D : Nat} {Λ : LT} {s : ST}
theorem gt60 {i : Nat} (h : i < 1000) : ((60 : Int32) < nI i) ↔ 60 < i := by rw [li_60]; exact nI_ltI (by omega) (by omega)
theorem jc_againLoop {x : Nat} (hx : x < lSq Λ) (m9 : lM Λ x ≠ 9) : ∀ (k i j : Nat) (s : ST) (σ : Sg), i + k = 61 → k < j → sD s + k < 2 ^ 28 → CC σ 19 Λ s → ∃ σ', J_X7_again_b42 j (nI x) (nI i) σ = some (agaK Λ x k i s, σ') ∧ Fr (fun a => 19 ≤ a ∧ a ≤ 23) σ σ' := by
  intro k
  induction k with
  | zero =>
    intro i j s σ hi hj hd h
    obtain ⟨j, rfl⟩ : ∃ i, j = i + 1 := ⟨j - 1, by omega⟩
    refine ⟨σ, ?_, Fr.rf⟩
    rw [J_X7_again_b42, if_pos ((gt60 (by omega)).mpr (by omega))]
    rfl
  | succ k ih =>
    intro i j s σ hi hj hd h
    obtain ⟨j, rfl⟩ : ∃ i, j = i + 1 := ⟨j - 1, by omega⟩
    have g8 := (h.2.2.2.1 x hx).1
    rw [J_X7_again_b42, if_neg (fun z => by have := (gt60 (by omega)).mp z; omega), jc_grassOn h hx, bd1_s, if_neg m9, agaK]
    by_cases e : sG s x = 0
    · obtain ⟨σ1, r1, r2, r3⟩ := jc_pass h (by decide) (by omega)
      obtain ⟨σ2, t1, t2⟩ := ih (i + 1) j (passS Λ s) σ1 (by omega) (by omega) (by rw [passS_D]; omega) r2
      refine ⟨σ2, ?_, Fr.tr (r3.mono fun a z => z) t2⟩
      rw [if_pos (show nI (sG s x) ≤ 0 from by rw [e]; decide), r1, bd2_s, show nI i + (1 : Int32) = nI (i + 1) from by rw [li_1, nI_add], t1, if_pos e]
    · refine ⟨σ, ?_, Fr.rf⟩
      rw [if_neg (show ¬ nI (sG s x) ≤ 0 from by rw [li_0, nI_leI (by omega) (by omega)]; omega), if_neg e]
theorem spare_wk {σ' : Sg} (f : Fr (fun a => 19 ≤ a ∧ a ≤ 23) σ σ') : Fs Wk σ σ' := f.fs fun a j z => Or.inl z
theorem jc_starLoop {b : Nat} (hb : b < lNb Λ) : ∀ (k i j : Nat) (s : ST) (σ : Sg), i + k = 61 → k < j → sD s + k < 2 ^ 28 → CC σ 19 Λ s → ∃ σ', J_X7_starves_b40 j (nI b) (nI i) σ = some (strK Λ b k i s, σ') ∧ Fr (fun a => 19 ≤ a ∧ a ≤ 23) σ σ' := by
  intro k
  induction k with
  | zero =>
    intro i j s σ hi hj hd h
    obtain ⟨j, rfl⟩ : ∃ i, j = i + 1 := ⟨j - 1, by omega⟩
    refine ⟨σ, ?_, Fr.rf⟩
    rw [J_X7_starves_b40, if_pos ((gt60 (by omega)).mpr (by omega))]
    rfl
  | succ k ih =>
    intro i j s σ hi hj hd h
    obtain ⟨j, rfl⟩ : ∃ i, j = i + 1 := ⟨j - 1, by omega⟩
    obtain ⟨σ1, r1, r2, r3⟩ := jc_pass h (by decide) (by omega)
    rw [J_X7_starves_b40, if_neg (fun z => by have := (gt60 (by omega)).mp z; omega), r1, bd2_s, jc_isOff r2 hb, bd1_s, strK]
    by_cases e : sP (passS Λ s) b = 36
    · refine ⟨σ1, ?_, r3.mono fun a z => z⟩
      rw [if_pos e, if_neg n10, if_pos e]
    · obtain ⟨σ2, t1, t2⟩ := ih (i + 1) j (passS Λ s) σ1 (by omega) (by omega) (by rw [passS_D]; omega) r2
      refine ⟨σ2, ?_, Fr.tr (r3.mono fun a z => z) t2⟩
      rw [if_neg e, if_pos z00, show nI i + (1 : Int32) = nI (i + 1) from by rw [li_1, nI_add], t1, if_neg e]
end AGAIN
