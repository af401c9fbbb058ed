/-! the reference's way of asking for a ram -/
section NEAR2
variable {σ : Sg} {Λ : LT} {s : ST}
theorem onN_eq (hΛ : LOK Λ) (hs : SOK Λ s) {b : Nat} (hb : b < lNb Λ) (h36 : sP s b ≠ 36) : onN Λ s (sP s b) = b := by
  rcases onN_spec Λ s (sP s b) hΛ.2.2.1.2 with ⟨-, h⟩ | ⟨h1, h2⟩
  · exact absurd rfl (h b hb)
  · exact hs.2.2.1 _ b h1 hb h2 (by rw [h2]; exact h36)
/-- the ram that is next to x that way -/
def ramW (Λ : LT) (s : ST) (x v way : Nat) : Bool := decide (nextN Λ x way ≠ 36) && (decide (onN Λ s (nextN Λ x way) ≠ 8) && (decide (lVl Λ (onN Λ s (nextN Λ x way)) ≠ v) && decide (kdN Λ s (onN Λ s (nextN Λ x way)) = 0)))
theorem near_iff (hΛ : LOK Λ) (hs : SOK Λ s) {x v : Nat} (hx : x < lSq Λ) : nearN Λ s x v = true ↔ ∃ way, way < 4 ∧ ramW Λ s x v way = true := by
  have h8 := hΛ.2.2.1.2
  unfold nearN
  rw [nearK_iff h8 9 0 rfl]
  constructor
  · rintro ⟨a, -, h2, q1, q2, q3, q4⟩
    have hy : sP s a < lSq Λ := by rcases hs.2.1 a h2 with z | z <;> omega
    obtain ⟨way, w1, w2⟩ := (adjN hΛ hy hx).mp q4
    refine ⟨way, w1, ?_⟩
    simp only [ramW, Bool.and_eq_true, decide_eq_true_eq]
    rw [w2, onN_eq hΛ hs h2 q1]
    exact ⟨q1, by omega, q3, q2⟩
  · rintro ⟨way, w1, h⟩
    simp only [ramW, Bool.and_eq_true, decide_eq_true_eq] at h
    obtain ⟨q1, q2, q3, q4⟩ := h
    rcases onN_spec Λ s (nextN Λ x way) h8 with ⟨z, -⟩ | ⟨z1, z2⟩
    · exact absurd z q2
    · have hy : nextN Λ x way < lSq Λ := by rcases nextN_lt hΛ hx w1 with z | z <;> omega
      refine ⟨_, Nat.zero_le _, z1, by rw [z2]; exact q1, q4, q3, ?_⟩
      rw [z2]
      exact (adjN hΛ hy hx).mpr ⟨way, w1, rfl⟩
def nearWK (Λ : LT) (s : ST) (x v : Nat) : Nat → Nat → Bool
  | 0, _ => false
  | k + 1, way => ramW Λ s x v way || nearWK Λ s x v k (way + 1)
theorem nearWK_iff {x v : Nat} : ∀ (k way : Nat), nearWK Λ s x v k way = true ↔ ∃ a, way ≤ a ∧ a < way + k ∧ ramW Λ s x v a = true
  | 0, way => ⟨fun h => (by cases h), fun ⟨a, h1, h2, _⟩ => (by omega)⟩
  | k + 1, way => by
    unfold nearWK
    rw [Bool.or_eq_true, nearWK_iff k (way + 1)]
    constructor
    · rintro (h | ⟨a, h1, h2, h3⟩)
      · exact ⟨way, Nat.le_refl _, by omega, h⟩
      · exact ⟨a, by omega, by omega, h3⟩
    · rintro ⟨a, h1, h2, h3⟩
      by_cases e : a = way
      · exact Or.inl (e ▸ h3)
      · exact Or.inr ⟨a, by omega, by omega, h3⟩
theorem onI_lt0 {n : Nat} (h : n ≤ 8) : onI n < 0 ↔ n = 8 := by
  unfold onI
  by_cases e : n = 8
  · rw [if_pos e]; exact ⟨fun _ => e, fun _ => by decide⟩
  · rw [if_neg e]; exact ⟨fun z => absurd z (nI_nlt0 (by omega)), fun z => absurd z e⟩
theorem onN_le (h8 : lNb Λ ≤ 8) (x : Nat) : onN Λ s x ≤ 8 := by
  rcases onN_spec Λ s x h8 with ⟨z, -⟩ | ⟨z, -⟩ <;> omega
/-- one way asked: 'is' before, and whether it is so behind it -/
theorem jm_near36 (h : MS σ Λ s) {x v way : Nat} (hx : x < lSq Λ) (hv : v ≤ 1) (hw : way < 4) (y5 : Int32 → Int32 → Int32 → Int32 → Sg → Option Int32) (is : Bool) : (if 0 ≤ plI (nextN Λ x way) then bd1 (J_X8_onIt (plI (nextN Λ x way)) σ) fun r33 => J_X8_isNearRam_b36 y5 (nI x) (nI v) (if is = true then 1 else 0) (nI way) r33 σ else J_X8_isNearRam_b36 y5 (nI x) (nI v) (if is = true then 1 else 0) (nI way) (-4 : Int32) σ) = y5 (nI x) (nI v) (if (is || ramW Λ s x v way) = true then 1 else 0) (nI (way + 1)) σ := by
  have h8 := h.nb8
  have h36 := h.sq36
  have hn := nextN_lt h.2.2.1 hx hw
  by_cases e1 : nextN Λ x way = 36
  · have r0 : ramW Λ s x v way = false := by simp [ramW, e1]
    have q1 : ¬ 0 ≤ plI (nextN Λ x way) := by rw [e1]; decide
    rw [if_neg q1, r0, Bool.or_false]
    unfold J_X8_isNearRam_b36
    cases is
    · simp only [Bool.false_eq_true, ↓reduceIte, (by decide : (-4 : Int32) < 0)]
      rw [li_1, nI_add]
    · simp only [↓reduceIte, (by decide : ¬ (1 : Int32) = 0)]
      rw [li_1, nI_add]
  · have hy : nextN Λ x way < 36 := by omega
    rw [plI_of e1, if_pos (nI_ge0 (by omega)), jm_onIt h hy, bd1_s]
    unfold J_X8_isNearRam_b36
    cases is
    · simp only [Bool.false_eq_true, ↓reduceIte, Bool.false_or]
      by_cases e2 : onN Λ s (nextN Λ x way) = 8
      · have r0 : ramW Λ s x v way = false := by simp [ramW, e2]
        rw [if_pos ((onI_lt0 (onN_le h8 _)).mpr e2), r0]
        simp only [Bool.false_eq_true, ↓reduceIte]
        rw [li_1, nI_add]
      · obtain ⟨z1, z2⟩ : onN Λ s (nextN Λ x way) < lNb Λ ∧ sP s (onN Λ s (nextN Λ x way)) = nextN Λ x way := by
          rcases onN_spec Λ s (nextN Λ x way) h8 with ⟨z, -⟩ | z
          · exact absurd z e2
          · exact z
        have v1 := (h.2.2.1.2.2.2.2.2.2.2.1 _ z1).2
        have k3 := kdN_le (s := s) h.2.2.1 z1
        rw [if_neg (fun z => e2 ((onI_lt0 (onN_le h8 _)).mp z))]
        have eo : onI (onN Λ s (nextN Λ x way)) = nI (onN Λ s (nextN Λ x way)) := if_neg e2
        rw [eo, if_pos ((inb_nI (by omega)).mpr (by omega)), nI_clamp (by omega), h.vl z1, jm_kindOf h z1, bd1_s]
        by_cases e3 : lVl Λ (onN Λ s (nextN Λ x way)) = v
        · have r0 : ramW Λ s x v way = false := by simp [ramW, e3]
          rw [e3, if_pos rfl, r0]
          simp only [Bool.false_eq_true, ↓reduceIte]
          rw [li_1, nI_add]
        · rw [if_neg (fun z => e3 ((nI_inj (by omega) (by omega)).mp z))]
          by_cases e4 : kdN Λ s (onN Λ s (nextN Λ x way)) = 0
          · have r0 : ramW Λ s x v way = true := by simp [ramW, e1, e2, e3, e4]
            rw [e4, if_pos li_0.symm, r0]
            simp only [↓reduceIte]
            rw [li_1, nI_add]
          · have r0 : ramW Λ s x v way = false := by simp [ramW, e4]
            have q4 : ¬ nI (kdN Λ s (onN Λ s (nextN Λ x way))) = (0 : Int32) := fun z => e4 ((nI_inj (by omega) (by omega)).mp z)
            rw [if_neg q4, r0]
            simp only [Bool.false_eq_true, ↓reduceIte]
            rw [li_1, nI_add]
    · simp only [↓reduceIte, (by decide : ¬ (1 : Int32) = 0), Bool.true_or]
      rw [li_1, nI_add]
theorem jm_nearLoop (h : MS σ Λ s) {x v : Nat} (hx : x < lSq Λ) (hv : v ≤ 1) : ∀ (k way j : Nat) (is : Bool), way + k = 4 → 4 < way + j → J_X8_isNearRam_b5 j (nI x) (nI v) (if is = true then 1 else 0) (nI way) σ = some (if (is || nearWK Λ s x v k way) = true then 1 else 0) := by
  intro k
  induction k with
  | zero =>
    intro way j is hb hj
    obtain ⟨j, rfl⟩ : ∃ i, j = i + 1 := ⟨j - 1, by omega⟩
    have e : way = 4 := by omega
    subst e
    rw [J_X8_isNearRam_b5, li_4, if_pos (nI_le (Nat.le_refl _) (by omega))]
    cases is <;> rfl
  | succ k ih =>
    intro way j is hb hj
    obtain ⟨j, rfl⟩ : ∃ i, j = i + 1 := ⟨j - 1, by omega⟩
    rw [J_X8_isNearRam_b5, li_4, if_neg (nI_ge (by omega) (by omega)), jm_nextTo h hx (by omega), bd1_s]
    refine (jm_near36 h hx hv (show way < 4 by omega) _ is).trans ?_
    refine (ih (way + 1) j _ (by omega) (by omega)).trans ?_
    rw [Bool.or_assoc]
    rfl
theorem jm_isNearRam (h : MS σ Λ s) {x v : Nat} (hx : x < lSq Λ) (hv : v ≤ 1) : J_X8_isNearRam (nI x) (nI v) σ = some (if nearN Λ s x v = true then 1 else 0) := by
  have e : nearN Λ s x v = nearWK Λ s x v 4 0 := by
    rw [Bool.eq_iff_iff, near_iff h.2.2.1 h.2.2.2 hx, nearWK_iff]
    constructor
    · rintro ⟨a, h1, h2⟩; exact ⟨a, Nat.zero_le _, by omega, h2⟩
    · rintro ⟨a, _, h1, h2⟩; exact ⟨a, by omega, h2⟩
  have z := jm_nearLoop h hx hv 4 0 FU false rfl (by rw [FU_eq]; omega)
  rw [Bool.false_or] at z
  unfold J_X8_isNearRam
  rw [e, ← z]
  rfl
end NEAR2
