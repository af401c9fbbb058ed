/-! the class's meadow: what its methods answer of a state -/
theorem kdN_le {Λ : LT} {s : ST} {b : Nat} (hΛ : LOK Λ) (hb : b < lNb Λ) : kdN Λ s b ≤ 3 := by
  unfold kdN
  have := hΛ.2.2.2.2.2.2.2.1 b hb
  split <;> omega
def CC (σ : Sg) (c : Nat) (Λ : LT) (s : ST) : Prop := LC σ (lnd c) Λ ∧ MC σ c Λ s ∧ LOK Λ ∧ SOK Λ s
section CLS
variable {σ : Sg} {c : Nat} {Λ : LT} {s : ST}
theorem CC.nb8 (h : CC σ c Λ s) : lNb Λ ≤ 8 := h.2.2.1.2.2.1.2
theorem CC.nb (h : CC σ c Λ s) : σ (lnd c) 3 = nI (lNb Λ) := h.1.2.2.1
theorem CC.sq (h : CC σ c Λ s) : σ (lnd c) 0 = nI (lSq Λ) := h.1.1
theorem CC.wd (h : CC σ c Λ s) : σ (lnd c) 1 = nI (lWd Λ) := h.1.2.1
theorem CC.be (h : CC σ c Λ s) : σ (lnd c) 5 = nI (lBe Λ) := h.1.2.2.2.2.1
theorem CC.vl (h : CC σ c Λ s) {b : Nat} (hb : b < lNb Λ) : σ (lnd c + 1) b = nI (lVl Λ b) := h.1.2.2.2.2.2.2.1 b hb
theorem CC.gr (h : CC σ c Λ s) {x : Nat} (hx : x < lSq Λ) : σ (c + 1) x = nI (if lM Λ x = 9 then 9 else sG s x) := h.2.1.2.1 x hx
theorem CC.pl (h : CC σ c Λ s) {b : Nat} (hb : b < lNb Λ) : σ (c + 2) b = plI (sP s b) := h.2.1.2.2.1 b hb
theorem CC.kd (h : CC σ c Λ s) {b : Nat} (hb : b < lNb Λ) : σ (c + 3) b = nI (kdN Λ s b) := h.2.1.2.2.2.1 b hb
theorem CC.hu (h : CC σ c Λ s) {b : Nat} (hb : b < lNb Λ) : σ (c + 4) b = nI (sH s b) := h.2.1.2.2.2.2 b hb
theorem CC.sq36 (h : CC σ c Λ s) : lSq Λ ≤ 36 := h.2.2.1.sq.2.1
theorem jc_kindOf (h : CC σ c Λ s) {b : Nat} (hb : b < lNb Λ) : J_X2_kindOf c (nI b) σ = some (nI (kdN Λ s b)) := by
  have h8 := h.nb8
  have h1 : ¬ lNb Λ ≤ b := by omega
  have h2 : ¬ 8 ≤ b := by omega
  have h3 : b < 8 := by omega
  simp (disch := omega) only [J_X2_kindOf, h.nb, li_8, nI_leI, nI_nlt0, inb_nI, nI_clamp, h.kd hb, h1, h2, h3, ↓reduceIte]
theorem jc_placeOf (h : CC σ c Λ s) {b : Nat} (hb : b < lNb Λ) : J_X2_placeOf c (nI b) σ = some (plI (sP s b)) := by
  have h8 := h.nb8
  have h1 : ¬ lNb Λ ≤ b := by omega
  have h2 : ¬ 8 ≤ b := by omega
  have h3 : b < 8 := by omega
  simp (disch := omega) only [J_X2_placeOf, h.nb, li_8, nI_leI, nI_nlt0, inb_nI, nI_clamp, h.pl hb, h1, h2, h3, ↓reduceIte]
theorem jc_hungerOf (h : CC σ c Λ s) {b : Nat} (hb : b < lNb Λ) : J_X2_hungerOf c (nI b) σ = some (nI (sH s b)) := by
  have h8 := h.nb8
  have h1 : ¬ lNb Λ ≤ b := by omega
  have h2 : ¬ 8 ≤ b := by omega
  have h3 : b < 8 := by omega
  simp (disch := omega) only [J_X2_hungerOf, h.nb, li_8, nI_leI, nI_nlt0, inb_nI, nI_clamp, h.hu hb, h1, h2, h3, ↓reduceIte]
theorem jc_villageOf (h : CC σ c Λ s) {b : Nat} (hb : b < lNb Λ) : J_X1_villageOf (lnd c) (nI b) σ = some (nI (lVl Λ b)) := by
  have h8 := h.nb8
  have h1 : ¬ lNb Λ ≤ b := by omega
  have h2 : ¬ 8 ≤ b := by omega
  have h3 : b < 8 := by omega
  simp (disch := omega) only [J_X1_villageOf, h.nb, li_8, nI_leI, nI_nlt0, inb_nI, nI_clamp, h.vl hb, h1, h2, h3, ↓reduceIte]
/-- grass as the class tells it -/
theorem jc_grassOn (h : CC σ c Λ s) {x : Nat} (hx : x < lSq Λ) : J_X2_grassOn c (nI x) σ = some (nI (if lM Λ x = 9 then 9 else sG s x)) := by
  have h8 := h.sq36
  have h1 : ¬ lSq Λ ≤ x := by omega
  have h2 : ¬ 36 ≤ x := by omega
  have h3 : x < 36 := by omega
  simp (disch := omega) only [J_X2_grassOn, h.sq, li_36, nI_leI, nI_nlt0, inb_nI, nI_clamp, h.gr hx, h1, h2, h3, ↓reduceIte]
theorem jc_grassOff {x : Int32} (hx : x < 0) : J_X2_grassOn c x σ = some 9 := by
  simp only [J_X2_grassOn, hx, ↓reduceIte]
theorem plI_lt (x : Nat) (h : x ≤ 36) : plI x = (-4 : Int32) ↔ x = 36 := by
  unfold plI
  split
  · simp_all
  · constructor
    · intro e; exact absurd e (nI_nem4 (by omega))
    · intro e; contradiction
theorem plI_eq {x y : Nat} (hx : x ≤ 36) (hy : y < 36) : plI x = nI y ↔ x = y := by
  unfold plI
  split
  · constructor
    · intro e; exact absurd e (m4_ne (by omega))
    · intro e; omega
  · exact nI_inj (by omega) (by omega)
theorem SOK.p36 (hΛ : LOK Λ) (hs : SOK Λ s) {b : Nat} (hb : b < lNb Λ) : sP s b ≤ 36 := by
  have := hΛ.sq
  rcases hs.2.1 b hb with e | e <;> omega
theorem jc_isOff (h : CC σ c Λ s) {b : Nat} (hb : b < lNb Λ) : J_X2_isOff c (nI b) σ = some (if sP s b = 36 then 1 else 0) := by
  have h3 := plI_lt (sP s b) (SOK.p36 h.2.2.1 h.2.2.2 hb)
  unfold J_X2_isOff
  rw [jc_placeOf h hb, bd1_s]
  by_cases e : sP s b = 36
  · rw [if_pos (h3.mpr e), if_pos e]
  · rw [if_neg (fun z => e (h3.mp z)), if_neg e]
/-- who is on a square: the first; 8: nobody -/
def onK (Λ : LT) (s : ST) (x : Nat) : Nat → Nat → Nat
  | 0, _ => 8
  | k + 1, b => if b < lNb Λ then (if sP s b = x then b else onK Λ s x k (b + 1)) else 8
def onN (Λ : LT) (s : ST) (x : Nat) : Nat := onK Λ s x 9 0
def onI (n : Nat) : Int32 := if n = 8 then -4 else nI n
theorem jc_occLoop (h : CC σ c Λ s) {x : Nat} (hx : x < 36) : ∀ (k b j : Nat), b + k = 9 → 9 < b + j → J_X2_occupant_b9 c j (nI x) (nI b) σ = some (onI (onK Λ s x k b)) := by
  have h8 := h.nb8
  intro k
  induction k with
  | zero =>
    intro b j hb hj
    obtain ⟨j, rfl⟩ : ∃ i, j = i + 1 := ⟨j - 1, by omega⟩
    have h1 : lNb Λ ≤ b := by omega
    simp (disch := omega) only [J_X2_occupant_b9, h.nb, nI_leI, h1, ↓reduceIte, onK, onI]
  | succ k ih =>
    intro b j hb hj
    obtain ⟨j, rfl⟩ : ∃ i, j = i + 1 := ⟨j - 1, by omega⟩
    by_cases h1 : lNb Λ ≤ b
    · have h2 : ¬ b < lNb Λ := by omega
      simp (disch := omega) only [J_X2_occupant_b9, h.nb, nI_leI, h1, ↓reduceIte, onK, h2, onI]
    · have h2 : b < lNb Λ := by omega
      have h3 : ¬ 8 ≤ b := by omega
      have h4 : b < 8 := by omega
      have e := plI_eq (SOK.p36 h.2.2.1 h.2.2.2 h2) hx
      by_cases h5 : sP s b = x
      · have h6 := e.mpr h5
        have h7 : onK Λ s x (k + 1) b = b := by
          unfold onK
          rw [if_pos h2, if_pos h5]
        rw [h7]
        simp (disch := omega) only [J_X2_occupant_b9, h.nb, li_8, nI_leI, inb_nI, nI_clamp, h.pl h2, h1, h3, h4, h6, ↓reduceIte]
        unfold onI
        rw [if_neg (by omega)]
      · have h6 : ¬ plI (sP s b) = nI x := fun z => h5 (e.mp z)
        simp (disch := omega) only [J_X2_occupant_b9, h.nb, li_8, nI_leI, inb_nI, nI_clamp, h.pl h2, h1, h3, h4, h6, onK, h2, h5, ↓reduceIte]
        rw [li_1, nI_add]
        exact ih (b + 1) j (by omega) (by omega)
theorem FU_eq : FU = 1000000000000000 := rfl
theorem jc_occ (h : CC σ c Λ s) {x : Nat} (hx : x < 36) : J_X2_occupant c (nI x) σ = some (onI (onN Λ s x)) := by
  unfold J_X2_occupant
  rw [if_pos (nI_ge0 (by omega)), li_0]
  exact jc_occLoop h hx 9 0 FU rfl (by rw [FU_eq]; omega)
theorem jc_occNeg {x : Int32} (hx : ¬ 0 ≤ x) : J_X2_occupant c x σ = some (-4) := by
  simp only [J_X2_occupant, hx, ↓reduceIte]
theorem onK_le (Λ : LT) (s : ST) (x : Nat) : ∀ k b, onK Λ s x k b = 8 ∨ onK Λ s x k b < lNb Λ ∧ b ≤ onK Λ s x k b ∧ sP s (onK Λ s x k b) = x
  | 0, b => Or.inl rfl
  | k + 1, b => by
    unfold onK
    by_cases h1 : b < lNb Λ
    · rw [if_pos h1]
      by_cases h2 : sP s b = x
      · rw [if_pos h2]; exact Or.inr ⟨h1, Nat.le_refl _, h2⟩
      · rw [if_neg h2]
        rcases onK_le Λ s x k (b + 1) with e | ⟨e1, e2, e3⟩
        · exact Or.inl e
        · exact Or.inr ⟨e1, by omega, e3⟩
    · rw [if_neg h1]; exact Or.inl rfl
theorem onK_none {x : Nat} (hp : ∀ a, a < lNb Λ → sP s a ≠ x) : ∀ k b, onK Λ s x k b = 8
  | 0, b => rfl
  | k + 1, b => by
    unfold onK
    by_cases h1 : b < lNb Λ
    · rw [if_pos h1, if_neg (hp b h1), onK_none hp k (b + 1)]
    · rw [if_neg h1]
/-- nobody, or the one that is there -/
theorem onN_spec (Λ : LT) (s : ST) (x : Nat) (h8 : lNb Λ ≤ 8) : (onN Λ s x = 8 ∧ ∀ a, a < lNb Λ → sP s a ≠ x) ∨ (onN Λ s x < lNb Λ ∧ sP s (onN Λ s x) = x) := by
  rcases onK_le Λ s x 9 0 with e | ⟨e1, -, e3⟩
  · refine Or.inl ⟨e, ?_⟩
    have key : ∀ (k b : Nat), b + k = 9 → onK Λ s x k b = 8 → ∀ a, b ≤ a → a < lNb Λ → sP s a ≠ x := by
      intro k
      induction k with
      | zero => intro b hb _ a h1 h2; omega
      | succ k ih =>
        intro b hb ho a h1 h2
        unfold onK at ho
        rw [if_pos (by omega)] at ho
        by_cases h3 : sP s b = x
        · rw [if_pos h3] at ho; omega
        · rw [if_neg h3] at ho
          by_cases h4 : a = b
          · rw [h4]; exact h3
          · exact ih (b + 1) (by omega) ho a (by omega) h2
    exact fun a ha => key 9 0 rfl e a (Nat.zero_le a) ha
  · exact Or.inr ⟨e1, e3⟩
end CLS
