/-! a ram of the other village next to a square: both ways of asking -/
theorem absI_sub : ∀ a, a < 37 → ∀ b, b < 37 → absI (nI a - nI b) = nI (a - b + (b - a)) := by decide +kernel
def dist1 (w y x : Nat) : Nat := (y / w - x / w + (x / w - y / w)) + (y % w - x % w + (x % w - y % w))
theorem adj_iff : ∀ w, w < 7 → ∀ r, r < 7 → ∀ y, y < r * w → ∀ x, x < r * w → decide (dist1 w y x = 1) = (List.range 4).any (fun way => nextW (r * w) w x way == y) := by decide +kernel
theorem adjN {Λ : LT} (hΛ : LOK Λ) {y x : Nat} (hy : y < lSq Λ) (hx : x < lSq Λ) : dist1 (lWd Λ) y x = 1 ↔ ∃ way, way < 4 ∧ nextN Λ x way = y := by
  obtain ⟨⟨w1, w2⟩, ⟨r, r1, r2, e⟩, -⟩ := hΛ
  unfold nextN
  rw [e] at hx hy ⊢
  have z := adj_iff _ (by omega : lWd Λ < 7) r (by omega) y hy x hx
  constructor
  · intro h
    rw [decide_eq_true h] at z
    obtain ⟨way, h1, h2⟩ := List.any_eq_true.mp z.symm
    exact ⟨way, List.mem_range.mp h1, by simpa using h2⟩
  · rintro ⟨way, h1, h2⟩
    have h3 : (List.range 4).any (fun way => nextW (r * lWd Λ) (lWd Λ) x way == y) = true := List.any_eq_true.mpr ⟨way, List.mem_range.mpr h1, by simpa using h2⟩
    rw [h3] at z
    exact of_decide_eq_true z
/-- beast a threatens square x for village v -/
def ramC (Λ : LT) (s : ST) (x v a : Nat) : Prop := sP s a ≠ 36 ∧ kdN Λ s a = 0 ∧ lVl Λ a ≠ v ∧ dist1 (lWd Λ) (sP s a) x = 1
def ramCb (Λ : LT) (s : ST) (x v a : Nat) : Bool := decide (sP s a ≠ 36) && (decide (kdN Λ s a = 0) && (decide (lVl Λ a ≠ v) && decide (dist1 (lWd Λ) (sP s a) x = 1)))
theorem ramCb_iff {Λ : LT} {s : ST} {x v a : Nat} : ramCb Λ s x v a = true ↔ ramC Λ s x v a := by
  simp only [ramCb, ramC, Bool.and_eq_true, decide_eq_true_eq]
def nearK (Λ : LT) (s : ST) (x v : Nat) : Nat → Nat → Bool
  | 0, _ => false
  | k + 1, b => if b < lNb Λ then (if ramCb Λ s x v b = true then true else nearK Λ s x v k (b + 1)) else false
def nearN (Λ : LT) (s : ST) (x v : Nat) : Bool := nearK Λ s x v 9 0
theorem nearK_iff {Λ : LT} {s : ST} {x v : Nat} (h8 : lNb Λ ≤ 8) : ∀ (k b : Nat), b + k = 9 → (nearK Λ s x v k b = true ↔ ∃ a, b ≤ a ∧ a < lNb Λ ∧ ramC Λ s x v a) := by
  intro k
  induction k with
  | zero =>
    intro b hb
    constructor
    · intro h; cases h
    · rintro ⟨a, h1, h2, -⟩; omega
  | succ k ih =>
    intro b hb
    unfold nearK
    by_cases h1 : b < lNb Λ
    · rw [if_pos h1]
      by_cases h2 : ramCb Λ s x v b = true
      · rw [if_pos h2]
        exact ⟨fun _ => ⟨b, Nat.le_refl _, h1, ramCb_iff.mp h2⟩, fun _ => rfl⟩
      · rw [if_neg h2, ih (b + 1) (by omega)]
        constructor
        · rintro ⟨a, q1, q2, q3⟩; exact ⟨a, by omega, q2, q3⟩
        · rintro ⟨a, q1, q2, q3⟩
          refine ⟨a, ?_, q2, q3⟩
          by_cases e : a = b
          · rw [e] at q3; exact absurd (ramCb_iff.mpr q3) h2
          · omega
    · rw [if_neg h1]
      constructor
      · intro h; cases h
      · rintro ⟨a, q1, q2, -⟩; omega
section NEAR
variable {σ : Sg} {c : Nat} {Λ : LT} {s : ST}
theorem jc_ramLoop (h : CC σ c Λ s) {x v : Nat} (hx : x < lSq Λ) (hv : v ≤ 1) : ∀ (k b j : Nat), b + k = 9 → 9 < b + j → J_X2_ramBeside_b11 c j (nI x) (nI (1 - v)) (nI (lWd Λ)) (nI b) σ = some (if nearK Λ s x v k b = true then 1 else 0) := by
  have h8 := h.nb8
  have h36 := h.sq36
  have hW := h.2.2.1.1
  intro k
  induction k with
  | zero =>
    intro b j hb hj
    obtain ⟨j, rfl⟩ : ∃ i, j = i + 1 := ⟨j - 1, by omega⟩
    have h1 : lNb Λ ≤ b := by omega
    simp (disch := omega) only [J_X2_ramBeside_b11, h.nb, nI_leI, h1, ↓reduceIte, nearK]
    rfl
  | succ k ih =>
    intro b j hb hj
    obtain ⟨j, rfl⟩ : ∃ i, j = i + 1 := ⟨j - 1, by omega⟩
    by_cases h1 : lNb Λ ≤ b
    · have h2 : ¬ b < lNb Λ := by omega
      simp (disch := omega) only [J_X2_ramBeside_b11, h.nb, nI_leI, h1, ↓reduceIte, nearK, h2]
      rfl
    · have h2 : b < lNb Λ := by omega
      have h3 : ¬ 8 ≤ b := by omega
      have h4 : b < 8 := by omega
      have wz : ¬ nI (lWd Λ) ≤ 0 := nI_nle (by omega) (by omega)
      have wy : ¬ nI (lWd Λ) = 0 := nI_ne0 (by omega) (by omega)
      have p36 := SOK.p36 h.2.2.1 h.2.2.2 h2
      have k3 := kdN_le (s := s) h.2.2.1 h2
      have v1 := (h.2.2.1.2.2.2.2.2.2.2.1 b h2).2
      have step : J_X2_ramBeside_b11 c j (nI x) (nI (1 - v)) (nI (lWd Λ)) (nI b + (1)) σ = some (if nearK Λ s x v k (b + 1) = true then 1 else 0) := by
        rw [li_1, nI_add]
        exact ih (b + 1) j (by omega) (by omega)
      by_cases e1 : sP s b = 36
      · have q : ¬ ramCb Λ s x v b = true := fun z => (ramCb_iff.mp z).1 e1
        have q2 : plI (sP s b) < 0 := by rw [e1]; decide
        simp (disch := omega) only [J_X2_ramBeside_b11, h.nb, li_8, nI_leI, inb_nI, nI_clamp, h.pl h2, h1, h3, h4, wz, nearK, h2, q, Bool.false_eq_true, ↓reduceIte, step, q2]
      · have pS : sP s b < lSq Λ := by rcases h.2.2.2.2.1 b h2 with z | z <;> omega
        have q2 : ¬ nI (sP s b) < 0 := nI_nlt0 (by omega)
        by_cases e2 : kdN Λ s b = 0
        · have q3 : nI (kdN Λ s b) = 0 := by rw [e2]; rfl
          by_cases e3 : lVl Λ b = 1 - v
          · have q4 : nI (lVl Λ b) = nI (1 - v) := by rw [e3]
            have e4 : lVl Λ b ≠ v := by omega
            have d1 : sP s b / lWd Λ < 37 := Nat.lt_of_le_of_lt (Nat.div_le_self _ _) (by omega)
            have d2 : x / lWd Λ < 37 := Nat.lt_of_le_of_lt (Nat.div_le_self _ _) (by omega)
            have d3 : sP s b % lWd Λ < 37 := Nat.lt_of_le_of_lt (Nat.mod_le _ _) (by omega)
            have d4 : x % lWd Λ < 37 := Nat.lt_of_le_of_lt (Nat.mod_le _ _) (by omega)
            have q5 : absI (nI (sP s b / lWd Λ) - nI (x / lWd Λ)) + absI (nI (sP s b % lWd Λ) - nI (x % lWd Λ)) = nI (dist1 (lWd Λ) (sP s b) x) := by
              rw [absI_sub _ d1 _ d2, absI_sub _ d3 _ d4, nI_add]
              rfl
            have dl : dist1 (lWd Λ) (sP s b) x < 2 ^ 31 := by
              unfold dist1
              generalize sP s b / lWd Λ = A at d1 ⊢
              generalize x / lWd Λ = B at d2 ⊢
              generalize sP s b % lWd Λ = C at d3 ⊢
              generalize x % lWd Λ = D at d4 ⊢
              omega
            by_cases e5 : dist1 (lWd Λ) (sP s b) x = 1
            · have q : ramCb Λ s x v b = true := ramCb_iff.mpr ⟨e1, e2, e4, e5⟩
              have q6 : nI (dist1 (lWd Λ) (sP s b) x) = 1 := by rw [e5]; rfl
              simp (disch := omega) only [J_X2_ramBeside_b11, h.nb, li_8, nI_leI, inb_nI, nI_clamp, h.pl h2, h.kd h2, h.vl h2, h1, h3, h4, wz, wy, nearK, h2, q, Bool.false_eq_true, ↓reduceIte, q3, q4, plI_of e1, q2, nI_div, rmI_nI, q5, q6]
            · have q : ¬ ramCb Λ s x v b = true := fun z => e5 (ramCb_iff.mp z).2.2.2
              have q6 : ¬ nI (dist1 (lWd Λ) (sP s b) x) = 1 := fun z => e5 ((nI_inj dl (by omega)).mp z)
              simp (disch := omega) only [J_X2_ramBeside_b11, h.nb, li_8, nI_leI, inb_nI, nI_clamp, h.pl h2, h.kd h2, h.vl h2, h1, h3, h4, wz, wy, nearK, h2, q, Bool.false_eq_true, ↓reduceIte, q3, q4, plI_of e1, q2, nI_div, rmI_nI, q5, q6, step]
          · have q4 : ¬ nI (lVl Λ b) = nI (1 - v) := fun z => e3 ((nI_inj (by omega) (by omega)).mp z)
            have q : ¬ ramCb Λ s x v b = true := fun z => by have := (ramCb_iff.mp z).2.2.1; omega
            simp (disch := omega) only [J_X2_ramBeside_b11, h.nb, li_8, nI_leI, inb_nI, nI_clamp, h.pl h2, h.kd h2, h.vl h2, h1, h3, h4, wz, nearK, h2, q, Bool.false_eq_true, ↓reduceIte, q3, q4, plI_of e1, q2, step]
        · have q3 : ¬ nI (kdN Λ s b) = 0 := fun z => e2 ((nI_inj (by omega) (by omega)).mp z)
          have q : ¬ ramCb Λ s x v b = true := fun z => e2 (ramCb_iff.mp z).2.1
          simp (disch := omega) only [J_X2_ramBeside_b11, h.nb, li_8, nI_leI, inb_nI, nI_clamp, h.pl h2, h.kd h2, h1, h3, h4, wz, nearK, h2, q, Bool.false_eq_true, ↓reduceIte, q3, plI_of e1, q2, step]
theorem jc_ramBeside (h : CC σ c Λ s) {x v : Nat} (hx : x < lSq Λ) (hv : v ≤ 1) : J_X2_ramBeside c (nI x) (nI (1 - v)) σ = some (if nearN Λ s x v = true then 1 else 0) := by
  unfold J_X2_ramBeside
  rw [h.wd, li_0]
  exact jc_ramLoop h hx hv 9 0 FU rfl (by rw [FU_eq]; omega)
end NEAR
