/-! the wolf takes the first of those next to a bog -/
def bogK (Λ : LT) (x : Nat) : Nat → Nat → Bool
  | 0, _ => false
  | k + 1, w => (decide (nextN Λ x w ≠ 36) && decide (lM Λ (nextN Λ x w) = 9)) || bogK Λ x k (w + 1)
def bogN (Λ : LT) (x : Nat) : Bool := bogK Λ x 4 0
def wolK (Λ : LT) (s : ST) : Nat → Nat → ST
  | 0, _ => s
  | k + 1, b => if b < lNb Λ then (if sP s b = 36 then wolK Λ s k (b + 1) else if bogN Λ (sP s b) = true then plS s b 36 else wolK Λ s k (b + 1)) else s
def wolS (Λ : LT) (s : ST) : ST := wolK Λ s 9 0
section WOLF
variable {σ : Sg} {c : Nat} {Λ : LT} {s : ST}
theorem jc_bogLoop (h : CC σ c Λ s) {x : Nat} (hx : x < lSq Λ) : ∀ (k w j : Nat), w + k = 4 → 4 < w + j → J_X2_bogBeside_b2 c j (nI x) (nI w) σ = some (bI (bogK Λ x k w)) := by
  have h36 := h.sq36
  intro k
  induction k with
  | zero =>
    intro w j hw hj
    obtain ⟨j, rfl⟩ : ∃ i, j = i + 1 := ⟨j - 1, by omega⟩
    rw [J_X2_bogBeside_b2, if_pos (show (4 : Int32) ≤ nI w from by rw [li_4, nI_leI (by omega) (by omega)]; omega)]
    rfl
  | succ k ih =>
    intro w j hw hj
    obtain ⟨j, rfl⟩ : ∃ i, j = i + 1 := ⟨j - 1, by omega⟩
    have a1 : ∀ m : Nat, nI m + (1 : Int32) = nI (m + 1) := fun m => by rw [li_1, nI_add]
    rw [J_X2_bogBeside_b2, if_neg (show ¬ (4 : Int32) ≤ nI w from by rw [li_4, nI_leI (by omega) (by omega)]; omega), jc_beside h hx (by omega), bd1_s, a1, bogK]
    have lt := nextN_lt h.2.2.1 hx (show w < 4 by omega)
    generalize nextN Λ x w = y at lt ⊢
    by_cases e : y = 36
    · rw [e, if_pos (show plI 36 = (-4 : Int32) from rfl), ih (w + 1) j (by omega) (by omega)]
      rfl
    · have hy : y < lSq Λ := by omega
      have g8 := (h.2.2.2.1 y hy).1
      rw [plI_of e, if_neg (nI_nem4 (by omega)), jc_grassOn h hy, bd1_s]
      by_cases m9 : lM Λ y = 9
      · rw [if_pos m9, if_pos (show nI 9 = (9 : Int32) from rfl)]
        simp [e, m9, bI]
      · rw [if_neg m9, if_neg (nne li_9 (by omega) (by omega) (by omega)), ih (w + 1) j (by omega) (by omega)]
        simp [m9]
theorem jc_bogBeside (h : CC σ c Λ s) {x : Nat} (hx : x < lSq Λ) : J_X2_bogBeside c (nI x) σ = some (bI (bogN Λ x)) := by
  unfold J_X2_bogBeside
  exact jc_bogLoop h hx 4 0 FU rfl (by rw [FU_eq]; omega)
theorem jc_wolfLoop (h : CC σ c Λ s) (hc : 9 ≤ c) : ∀ (k b j : Nat), b + k = 9 → 9 < b + j → ∃ σ', J_X2_wolfComes_b2 c j (nI b) σ = some ((), σ') ∧ CC σ' c Λ (wolK Λ s k b) ∧ Fr (fun a => a = c + 2) σ σ' := by
  have h8 := h.nb8
  have h36 := h.sq36
  have hl := lnd_lt hc
  intro k
  induction k with
  | zero =>
    intro b j hb hj
    obtain ⟨j, rfl⟩ : ∃ i, j = i + 1 := ⟨j - 1, by omega⟩
    rw [J_X2_wolfComes_b2, h.nb, if_pos ((nI_leI (by omega) (by omega)).mpr (by omega))]
    exact ⟨σ, rfl, h, Fr.rf⟩
  | succ k ih =>
    intro b j hb hj
    obtain ⟨j, rfl⟩ : ∃ i, j = i + 1 := ⟨j - 1, by omega⟩
    have a1 : nI b + (1 : Int32) = nI (b + 1) := by rw [li_1, nI_add]
    by_cases hb' : b < lNb Λ
    · have p36 := SOK.p36 h.2.2.1 h.2.2.2 hb'
      have n8 : ¬ (8 : Int32) ≤ nI b := by rw [li_8, nI_leI (by omega) (by omega)]; omega
      have i8 : inb (nI b) 8 = true := (inb_nI (by omega)).mpr (by omega)
      rw [J_X2_wolfComes_b2, h.nb, if_neg (fun z => by have := (nI_leI (by omega) (by omega)).mp z; omega), if_neg n8, if_pos i8, nI_clamp (by omega), h.pl hb', a1, wolK, if_pos hb']
      by_cases hp : sP s b = 36
      · rw [if_pos ((plI_lt _ p36).mpr hp), if_pos hp]
        exact ih (b + 1) j (by omega) (by omega)
      · have hx : sP s b < lSq Λ := by rcases h.2.2.2.2.1 b hb' with z | z; exact absurd z hp; exact z.1
        rw [if_neg (fun z => hp ((plI_lt _ p36).mp z)), if_neg hp, if_pos i8, plI_of hp, jc_bogBeside h hx, bd1_s]
        cases e : bogN Λ (sP s b)
        · rw [if_pos (show bI false = 0 from rfl), if_neg (show ¬ false = true by decide)]
          exact ih (b + 1) j (by omega) (by omega)
        · rw [if_neg (show ¬ bI true = 0 from by decide), if_pos (show true = true from rfl), if_pos i8]
          exact ⟨_, rfl, ⟨LC.up (by omega) h.1, MC.upP (v := 36) h.2.1, h.2.2.1, offS_ok h.2.2.2 _⟩, Fr.up (P := fun a => a = c + 2) Fr.rf rfl⟩
    · rw [J_X2_wolfComes_b2, h.nb, if_pos ((nI_leI (by omega) (by omega)).mpr (by omega)), wolK, if_neg hb']
      exact ⟨σ, rfl, h, Fr.rf⟩
theorem jc_wolf (h : CC σ c Λ s) (hc : 9 ≤ c) : ∃ σ', J_X2_wolfComes c σ = some ((), σ') ∧ CC σ' c Λ (wolS Λ s) ∧ Fr (fun a => a = c + 2) σ σ' :=
  jc_wolfLoop h hc 9 0 FU rfl (by rw [FU_eq]; omega)
end WOLF
