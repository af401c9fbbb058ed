/-! one step: may beast b go on square y (mt: it may take) -/
def openN (Λ : LT) (s : ST) (b y : Nat) (mt : Bool) : Bool := decide (lM Λ y ≠ 9) && ((decide (onN Λ s y = 8) || (decide (lVl Λ (onN Λ s y) ≠ lVl Λ b) && mt)) && (decide (kdN Λ s b ≠ 3) || !nearN Λ s y (lVl Λ b)))
def stepN (Λ : LT) (s : ST) (b x way : Nat) (mt : Bool) : Nat := if nextN Λ x way = 36 then 36 else if openN Λ s b (nextN Λ x way) mt = true then nextN Λ x way else 36
def bI (t : Bool) : Int32 := if t = true then 1 else 0
theorem bI_t : bI true = 1 := rfl
theorem bI_f : bI false = 0 := rfl
theorem nne {a k : Nat} {v : Int32} (hv : v = nI k) (ha : a < 2 ^ 31) (hk : k < 2 ^ 31) (e : ¬ a = k) : ¬ nI a = v := fun z => e ((nI_inj ha hk).mp (z.trans hv))
theorem neq {a k : Nat} {v : Int32} (hv : v = nI k) (e : a = k) : nI a = v := by rw [e, hv]
section STEP
variable {σ : Sg} {c : Nat} {Λ : LT} {s : ST}
theorem onN_cases (h8 : lNb Λ ≤ 8) (y : Nat) : onN Λ s y = 8 ∨ onN Λ s y < lNb Λ := by
  rcases onN_spec Λ s y h8 with ⟨z, -⟩ | ⟨z, -⟩
  · exact Or.inl z
  · exact Or.inr z
theorem jc_open65 (h : CC σ c Λ s) {b y : Nat} (hb : b < lNb Λ) (hy : y < lSq Λ) : J_X2_isOpen_b65 c (nI b) (nI y) (nI (lVl Λ b)) σ = some (bI (decide (kdN Λ s b ≠ 3) || !nearN Λ s y (lVl Λ b))) := by
  have v1 := (h.2.2.1.2.2.2.2.2.2.2.1 b hb).2
  have k3 := kdN_le (s := s) h.2.2.1 hb
  unfold J_X2_isOpen_b65
  rw [jc_kindOf h hb, bd1_s]
  by_cases e : kdN Λ s b = 3
  · have q : nI (kdN Λ s b) = (3 : Int32) := by rw [e]; rfl
    rw [if_pos q, li_1, nI_subI v1, jc_ramBeside h hy v1, bd1_s]
    have d : decide (kdN Λ s b ≠ 3) = false := by simp [e]
    rw [d, Bool.false_or]
    cases nearN Λ s y (lVl Λ b) <;> rfl
  · have q : ¬ nI (kdN Λ s b) = (3 : Int32) := fun z => e ((nI_inj (by omega) (by omega)).mp z)
    rw [if_neg q]
    have d : decide (kdN Λ s b ≠ 3) = true := by simp [e]
    rw [d, Bool.true_or]
    rfl
theorem jc_isOpen (h : CC σ c Λ s) {b y : Nat} (hb : b < lNb Λ) (hy : y < lSq Λ) (pe : Bool) : J_X2_isOpen c (nI b) (nI y) (bI pe) σ = some (bI (openN Λ s b y (!pe && decide (kdN Λ s b ≠ 2)))) := by
  have h8 := h.nb8
  have h36 := h.sq36
  have v1 := (h.2.2.1.2.2.2.2.2.2.2.1 b hb).2
  have k3 := kdN_le (s := s) h.2.2.1 hb
  have g8 := (h.2.2.2.1 y hy).1
  have m9 := h.2.2.1.2.2.2.2.2.2.1 y hy
  unfold J_X2_isOpen openN
  rw [jc_grassOn h hy, bd1_s]
  by_cases e1 : lM Λ y = 9
  · rw [if_pos e1, if_pos li_9.symm]
    simp [e1, bI]
  · have q1 : ¬ nI (sG s y) = (9 : Int32) := fun z => by have := (nI_inj (b := 9) (by omega) (by omega)).mp z; omega
    rw [if_neg e1, if_neg q1, jc_villageOf h hb, bd1_s, jc_occ h (by omega), bd1_s]
    have d1 : decide (lM Λ y ≠ 9) = true := by simp [e1]
    rw [d1, Bool.true_and]
    rcases onN_cases (s := s) h8 y with e2 | e2
    · have q2 : onI (onN Λ s y) = (-4 : Int32) := by rw [e2]; rfl
      rw [if_pos q2, jc_open65 h hb hy]
      simp [e2]
    · have e3 : ¬ onN Λ s y = 8 := by omega
      have q2 : onI (onN Λ s y) = nI (onN Λ s y) := if_neg e3
      have vo := (h.2.2.1.2.2.2.2.2.2.2.1 _ e2).2
      rw [q2, if_neg (nI_nem4 (by omega))]
      have d2 : decide (onN Λ s y = 8) = false := by simp [e3]
      rw [d2, Bool.false_or]
      cases pe
      · rw [bI_f, if_pos rfl, jc_kindOf h hb, bd1_s]
        by_cases e4 : kdN Λ s b = 2
        · have q4 : nI (kdN Λ s b) = (2 : Int32) := by rw [e4]; rfl
          rw [if_pos q4]
          simp [e4, bI]
        · have q4 : ¬ nI (kdN Λ s b) = (2 : Int32) := fun z => e4 ((nI_inj (by omega) (by omega)).mp z)
          rw [if_neg q4, jc_villageOf h e2, bd1_s]
          by_cases e5 : lVl Λ (onN Λ s y) = lVl Λ b
          · rw [e5, if_pos rfl]
            simp [bI]
          · rw [if_neg (fun z => e5 ((nI_inj (by omega) (by omega)).mp z)), jc_open65 h hb hy]
            simp [e4, e5]
      · rw [bI_t, if_neg (by decide)]
        simp [bI]
end STEP
