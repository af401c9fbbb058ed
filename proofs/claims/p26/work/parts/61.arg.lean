/-! what is told to a call -/
theorem i_cases (a : Int32) {n : Nat} (hn : n < 2 ^ 31) : (∃ b, b < n ∧ a = nI b) ∨ (a < 0 ∨ nI n ≤ a) := by
  have h1 := Int32.toInt_lt a
  have h2 := Int32.le_toInt a
  by_cases e : a < 0
  · exact Or.inr (Or.inl e)
  · by_cases e2 : nI n ≤ a
    · exact Or.inr (Or.inr e2)
    · have e' : ¬ a.toInt < (0 : Int32).toInt := fun z => e (Int32.lt_iff_toInt_lt.mpr z)
      have e2' : ¬ (nI n).toInt ≤ a.toInt := fun z => e2 (Int32.le_iff_toInt_le.mpr z)
      rw [nI_toInt hn] at e2'
      have e0 : (0 : Int32).toInt = 0 := by decide
      rw [e0] at e'
      refine Or.inl ⟨a.toInt.toNat, by omega, ?_⟩
      apply Int32.toInt_inj.mp
      rw [nI_toInt (by omega)]
      omega
theorem neg_nle {a : Int32} {n : Nat} (hn : n < 2 ^ 31) (h : a < 0) : ¬ nI n ≤ a := fun z => by
  have h1 := Int32.lt_iff_toInt_lt.mp h
  have h2 := Int32.le_iff_toInt_le.mp z
  rw [nI_toInt hn] at h2
  have e0 : (0 : Int32).toInt = 0 := by decide
  rw [e0] at h1
  omega
theorem ge_lt {a : Int32} {m n : Nat} (hn : n < 2 ^ 31) (hmn : m < n) (h : nI n ≤ a) : nI m < a := by
  have h2 := Int32.le_iff_toInt_le.mp h
  rw [nI_toInt hn] at h2
  apply Int32.lt_iff_toInt_lt.mpr
  rw [nI_toInt (by omega)]
  omega
theorem ge_n0 {a : Int32} {n : Nat} (hn : n < 2 ^ 31) (h : nI n ≤ a) : ¬ a < 0 := fun z => neg_nle hn z h
theorem ge_ne {a : Int32} {m n : Nat} (hn : n < 2 ^ 31) (hmn : m < n) (h : nI n ≤ a) : ¬ a = nI m := fun z => by
  have := ge_lt hn hmn h
  rw [z] at this
  have := Int32.lt_iff_toInt_lt.mp this
  omega
theorem lt0_lt {a : Int32} {n : Nat} (hn : n < 2 ^ 31) (h : a < 0) : a < nI n := by
  have h1 := Int32.lt_iff_toInt_lt.mp h
  have e0 : (0 : Int32).toInt = 0 := by decide
  rw [e0] at h1
  apply Int32.lt_iff_toInt_lt.mpr
  rw [nI_toInt hn]
  omega
theorem lt0_ne {a : Int32} {n : Nat} (hn : n < 2 ^ 31) (h : a < 0) : ¬ a = nI n := fun z => nI_nlt0 hn (by rw [← z]; exact h)
section ARG
variable {σ : Sg} {Λ : LT}
theorem jl_hasBeast0 {l : Nat} {a : Int32} (hn : σ l 3 = nI (lNb Λ)) (ha : a < 0 ∨ nI (lNb Λ) ≤ a) : J_X1_hasBeast l a σ = some 0 := by
  unfold J_X1_hasBeast
  rcases ha with z | z
  · rw [if_pos z]
  · split
    · rfl
    · rw [hn, if_pos z]
theorem jl_hasSquare {l x : Nat} (hn : σ l 0 = nI (lSq Λ)) (h36 : lSq Λ ≤ 36) (hx : x < lSq Λ) : J_X1_hasSquare l (nI x) σ = some 1 := by
  unfold J_X1_hasSquare
  rw [if_neg (nI_nlt0 (by omega)), hn, if_neg (fun z => by have := (nI_leI (by omega) (by omega)).mp z; omega), if_neg (show ¬ (36 : Int32) ≤ nI x from by rw [li_36, nI_leI (by omega) (by omega)]; omega)]
theorem jl_hasSquare0 {l : Nat} {a : Int32} (hn : σ l 0 = nI (lSq Λ)) (ha : a < 0 ∨ nI (lSq Λ) ≤ a) : J_X1_hasSquare l a σ = some 0 := by
  unfold J_X1_hasSquare
  rcases ha with z | z
  · rw [if_pos z]
  · split
    · rfl
    · rw [hn, if_pos z]
theorem j7_isWay {w : Nat} (hw : w < 4) : J_X7_isWay (nI w) σ = some 1 := by
  unfold J_X7_isWay
  rw [if_neg (nI_nlt0 (by omega)), if_neg (show ¬ (4 : Int32) ≤ nI w from by rw [li_4, nI_leI (by omega) (by omega)]; omega)]
theorem j7_isWay0 {a : Int32} (ha : a < 0 ∨ nI 4 ≤ a) : J_X7_isWay a σ = some 0 := by
  unfold J_X7_isWay
  rcases ha with z | z
  · rw [if_pos z]
  · split
    · rfl
    · rw [if_pos (show (4 : Int32) ≤ a from z)]
theorem n10 : ¬ (1 : Int32) = 0 := by decide
theorem z00 : (0 : Int32) = 0 := rfl
/-- what is told in 0 to 1, as the class tries it -/
theorem what1 {w : Nat} (hw : w ≤ 1) : ¬ nI w < 0 ∧ nI w ≤ (1 : Int32) := ⟨nI_nlt0 (by omega), by rw [li_1, nI_leI (by omega) (by omega)]; omega⟩
theorem what0 {a : Int32} (ha : nI 2 ≤ a) : ¬ a < 0 ∧ ¬ a ≤ (1 : Int32) := ⟨ge_n0 (by decide) ha, fun y => by
  have y1 := Int32.le_iff_toInt_le.mp y
  have y2 := Int32.le_iff_toInt_le.mp ha
  have e1 : (1 : Int32).toInt = 1 := by decide
  rw [e1] at y1
  rw [nI_toInt (by decide)] at y2
  omega⟩
end ARG
