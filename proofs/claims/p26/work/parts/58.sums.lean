/-! what all are worth, how many stay, all grass -/
def worK (Λ : LT) (s : ST) : Nat → Nat → Int32 → Int32
  | 0, _, x => x
  | k + 1, b, x => if b < lNb Λ then worK Λ s k (b + 1) (if sP s b = 36 then x else if lVl Λ b = 0 then x + wsI (kdN Λ s b) else x + -(wsI (kdN Λ s b))) else x
def worI (Λ : LT) (s : ST) : Int32 := worK Λ s 9 0 0
def staK (Λ : LT) (s : ST) (v : Nat) : Nat → Nat → Nat → Nat
  | 0, _, x => x
  | k + 1, b, x => if b < lNb Λ then staK Λ s v k (b + 1) (if sP s b = 36 then x else if lVl Λ b = v then x + 1 else x) else x
def staN (Λ : LT) (s : ST) (v : Nat) : Nat := staK Λ s v 9 0 0
theorem staK_le (Λ : LT) (s : ST) (v : Nat) : ∀ k b x, staK Λ s v k b x ≤ x + k
  | 0, b, x => Nat.le_refl x
  | k + 1, b, x => by
    unfold staK
    by_cases h : b < lNb Λ
    · rw [if_pos h]
      have := staK_le Λ s v k (b + 1) (if sP s b = 36 then x else if lVl Λ b = v then x + 1 else x)
      have q : (if sP s b = 36 then x else if lVl Λ b = v then x + 1 else x) ≤ x + 1 := by
        split
        · omega
        · split <;> omega
      omega
    · rw [if_neg h]; omega
theorem staN_le {Λ : LT} {s : ST} {v : Nat} : staN Λ s v ≤ 9 := by
  have := staK_le Λ s v 9 0 0
  unfold staN
  omega
def allK (Λ : LT) (s : ST) : Nat → Nat → Int32 → Int32
  | 0, _, x => x
  | k + 1, n, x => if n < lSq Λ then allK Λ s k (n + 1) (if lM Λ n = 9 then x else x + nI (sG s n)) else x
def allI (Λ : LT) (s : ST) : Int32 := allK Λ s 37 0 0
theorem ad0 (x : Int32) : x + 0 = x := Int32.add_zero x
section SUMS
variable {σ : Sg} {c : Nat} {Λ : LT} {s : ST}
theorem jc_worthLoop (h : CC σ c Λ s) : ∀ (k b j : Nat) (x : Int32), b + k = 9 → 9 < b + j → J_X2_worth_b4 c j x (nI b) σ = some (worK Λ s k b x) := by
  have h8 := h.nb8
  intro k
  induction k with
  | zero =>
    intro b j x hb hj
    obtain ⟨j, rfl⟩ : ∃ i, j = i + 1 := ⟨j - 1, by omega⟩
    rw [J_X2_worth_b4, h.nb, if_pos ((nI_leI (by omega) (by omega)).mpr (by omega))]
    rfl
  | succ k ih =>
    intro b j x hb hj
    obtain ⟨j, rfl⟩ : ∃ i, j = i + 1 := ⟨j - 1, by omega⟩
    have a1 : nI b + (1 : Int32) = nI (b + 1) := by rw [li_1, nI_add]
    by_cases hb' : b < lNb Λ
    · have p36 := SOK.p36 h.2.2.1 h.2.2.2 hb'
      have n8 : ¬ (8 : Int32) ≤ nI b := by rw [li_8, nI_leI (by omega) (by omega)]; omega
      have k3 := kdN_le (s := s) h.2.2.1 hb'
      have i8 : inb (nI b) 8 = true := (inb_nI (by omega)).mpr (by omega)
      have v1 := (h.2.2.1.2.2.2.2.2.2.2.1 b hb').2
      rw [J_X2_worth_b4, h.nb, if_neg (fun z => by have := (nI_leI (by omega) (by omega)).mp z; omega), if_neg n8, if_pos i8, nI_clamp (by omega), h.kd hb', if_neg (nI_nlt0 (by omega)), if_pos i8, if_neg (show ¬ (4 : Int32) ≤ nI (kdN Λ s b) from by rw [li_4, nI_leI (by omega) (by omega)]; omega), if_pos i8, if_pos ((inb_nI (by omega)).mpr (by omega)), nI_clamp (n := kdN Λ s b) (by omega)]
      unfold J_X2_worth_b57
      rw [if_pos i8, nI_clamp (by omega), h.pl hb', a1, worK, if_pos hb']
      by_cases hp : sP s b = 36
      · rw [if_pos ((plI_lt _ p36).mpr hp), if_pos hp]
        exact ih (b + 1) j x (by omega) (by omega)
      · rw [if_neg (fun z => hp ((plI_lt _ p36).mp z)), if_neg hp, jc_villageOf h hb', bd1_s]
        by_cases hv : lVl Λ b = 0
        · rw [if_pos (neq li_0 hv), if_pos hv]
          exact ih (b + 1) j _ (by omega) (by omega)
        · rw [if_neg (nne li_0 (by omega) (by omega) hv), if_neg hv]
          exact ih (b + 1) j _ (by omega) (by omega)
    · rw [J_X2_worth_b4, h.nb, if_pos ((nI_leI (by omega) (by omega)).mpr (by omega)), worK, if_neg hb']
theorem jc_worth (h : CC σ c Λ s) : J_X2_worth c σ = some (worI Λ s) := by
  unfold J_X2_worth
  rw [show J_X2_worth_b4 c FU 0 0 σ = J_X2_worth_b4 c FU 0 (nI 0) σ from rfl]
  exact jc_worthLoop h 9 0 FU _ rfl (by rw [FU_eq]; omega)
theorem jc_stayLoop (h : CC σ c Λ s) {v : Nat} (hv : v ≤ 1) : ∀ (k b j x : Nat), b + k = 9 → 9 < b + j → J_X2_staying_b4 c j (nI v) (nI x) (nI b) σ = some (nI (staK Λ s v k b x)) := by
  have h8 := h.nb8
  intro k
  induction k with
  | zero =>
    intro b j x hb hj
    obtain ⟨j, rfl⟩ : ∃ i, j = i + 1 := ⟨j - 1, by omega⟩
    rw [J_X2_staying_b4, h.nb, if_pos ((nI_leI (by omega) (by omega)).mpr (by omega))]
    rfl
  | succ k ih =>
    intro b j x hb hj
    obtain ⟨j, rfl⟩ : ∃ i, j = i + 1 := ⟨j - 1, by omega⟩
    have a1 : ∀ m : Nat, nI m + (1 : Int32) = nI (m + 1) := fun m => by rw [li_1, nI_add]
    by_cases hb' : b < lNb Λ
    · have p36 := SOK.p36 h.2.2.1 h.2.2.2 hb'
      have n8 : ¬ (8 : Int32) ≤ nI b := by rw [li_8, nI_leI (by omega) (by omega)]; omega
      have i8 : inb (nI b) 8 = true := (inb_nI (by omega)).mpr (by omega)
      have v1 := (h.2.2.1.2.2.2.2.2.2.2.1 b hb').2
      rw [J_X2_staying_b4, h.nb, if_neg (fun z => by have := (nI_leI (by omega) (by omega)).mp z; omega), if_neg n8, if_pos i8, nI_clamp (by omega), h.pl hb', a1, a1, staK, if_pos hb']
      by_cases hp : sP s b = 36
      · rw [if_pos ((plI_lt _ p36).mpr hp), if_pos hp]
        exact ih (b + 1) j x (by omega) (by omega)
      · rw [if_neg (fun z => hp ((plI_lt _ p36).mp z)), if_neg hp, jc_villageOf h hb', bd1_s]
        by_cases e : lVl Λ b = v
        · rw [if_pos (by rw [e]), if_pos e]
          exact ih (b + 1) j _ (by omega) (by omega)
        · rw [if_neg (fun z => e ((nI_inj (by omega) (by omega)).mp z)), if_neg e]
          exact ih (b + 1) j _ (by omega) (by omega)
    · rw [J_X2_staying_b4, h.nb, if_pos ((nI_leI (by omega) (by omega)).mpr (by omega)), staK, if_neg hb']
theorem jc_staying (h : CC σ c Λ s) {v : Nat} (hv : v ≤ 1) : J_X2_staying c (nI v) σ = some (nI (staN Λ s v)) := by
  unfold J_X2_staying
  exact jc_stayLoop h hv 9 0 FU 0 rfl (by rw [FU_eq]; omega)
theorem jc_allLoop (h : CC σ c Λ s) : ∀ (k n j : Nat) (x : Int32), n + k = 37 → 37 < n + j → J_X2_allGrass_b4 c j x (nI n) σ = some (allK Λ s k n x) := by
  have h36 := h.sq36
  intro k
  induction k with
  | zero =>
    intro b j x hb hj
    obtain ⟨j, rfl⟩ : ∃ i, j = i + 1 := ⟨j - 1, by omega⟩
    rw [J_X2_allGrass_b4, h.sq, if_pos ((nI_leI (by omega) (by omega)).mpr (by omega))]
    rfl
  | succ k ih =>
    intro n j x hb hj
    obtain ⟨j, rfl⟩ : ∃ i, j = i + 1 := ⟨j - 1, by omega⟩
    have a1 : ∀ m : Nat, nI m + (1 : Int32) = nI (m + 1) := fun m => by rw [li_1, nI_add]
    by_cases hb' : n < lSq Λ
    · have n8 : ¬ (36 : Int32) ≤ nI n := by rw [li_36, nI_leI (by omega) (by omega)]; omega
      have i36 : inb (nI n) 36 = true := (inb_nI (by omega)).mpr (by omega)
      have g8 := (h.2.2.2.1 n hb').1
      rw [J_X2_allGrass_b4, h.sq, if_neg (fun z => by have := (nI_leI (by omega) (by omega)).mp z; omega), if_neg n8, if_pos i36, if_pos i36, nI_clamp (by omega), h.gr hb', a1, ad0, allK, if_pos hb']
      by_cases m9 : lM Λ n = 9
      · rw [if_pos m9, if_pos m9, if_pos (by decide)]
        exact ih (n + 1) j x (by omega) (by omega)
      · rw [if_neg m9, if_neg m9, if_neg (nne li_9 (by omega) (by omega) (by omega))]
        exact ih (n + 1) j _ (by omega) (by omega)
    · rw [J_X2_allGrass_b4, h.sq, if_pos ((nI_leI (by omega) (by omega)).mpr (by omega)), allK, if_neg hb']
theorem jc_allGrass (h : CC σ c Λ s) : J_X2_allGrass c σ = some (allI Λ s) := by
  unfold J_X2_allGrass
  exact jc_allLoop h 37 0 FU 0 rfl (by rw [FU_eq]; omega)
end SUMS
