/-! which village has lost -/
def vI (v : Nat) : Int32 := if v = 0 then 1 else 2
def lostK (Λ : LT) (s : ST) : Nat → Nat → Int32 → Int32 → Int32
  | 0, _, x1, x2 => x1 &&& (x2 ^^^ (-1 : Int32))
  | k + 1, b, x1, x2 => if b < lNb Λ then (if lKd Λ b = 3 then lostK Λ s k (b + 1) (x1 ||| vI (lVl Λ b)) (x2 ||| (if sP s b = 36 then 0 else vI (lVl Λ b))) else lostK Λ s k (b + 1) x1 x2) else x1 &&& (x2 ^^^ (-1 : Int32))
def lostI (Λ : LT) (s : ST) : Int32 := lostK Λ s 9 0 0 0
theorem kdN_3 {Λ : LT} {s : ST} {b : Nat} : kdN Λ s b = 3 ↔ lKd Λ b = 3 := by
  unfold kdN
  split
  · rename_i z
    constructor
    · intro y; omega
    · intro y; omega
  · exact Iff.rfl
section LOST
variable {σ : Sg} {c : Nat} {Λ : LT} {s : ST}
theorem jc_lostLoop (h : CC σ c Λ s) : ∀ (k b j : Nat) (x1 x2 : Int32), b + k = 9 → 9 < b + j → J_X2_lost_b6 c j x1 x2 (nI b) σ = some (lostK Λ s k b x1 x2) := by
  have h8 := h.nb8
  intro k
  induction k with
  | zero =>
    intro b j x1 x2 hb hj
    obtain ⟨j, rfl⟩ : ∃ i, j = i + 1 := ⟨j - 1, by omega⟩
    rw [J_X2_lost_b6, h.nb, if_pos ((nI_leI (by omega) (by omega)).mpr (by omega))]
    rfl
  | succ k ih =>
    intro b j x1 x2 hb hj
    obtain ⟨j, rfl⟩ : ∃ i, j = i + 1 := ⟨j - 1, by omega⟩
    have a1 : nI b + (1 : Int32) = nI (b + 1) := by rw [li_1, nI_add]
    by_cases hb' : b < lNb Λ
    · have p36 := SOK.p36 h.2.2.1 h.2.2.2 hb'
      have n8 : ¬ (8 : Int32) ≤ nI b := by rw [li_8, nI_leI (by omega) (by omega)]; omega
      have k3 := kdN_le (s := s) h.2.2.1 hb'
      rw [J_X2_lost_b6, h.nb, if_neg (fun z => by have := (nI_leI (by omega) (by omega)).mp z; omega), if_neg n8, if_pos ((inb_nI (by omega)).mpr (by omega)), nI_clamp (by omega), h.kd hb', lostK, if_pos hb', a1]
      by_cases hk : lKd Λ b = 3
      · have v1 := (h.2.2.1.2.2.2.2.2.2.2.1 b hb').2
        rw [if_pos (neq li_3 (kdN_3.mpr hk)), jc_villageOf h hb', bd1_s, if_pos hk]
        unfold J_X2_lost_b49
        rw [if_pos ((inb_nI (by omega)).mpr (by omega)), if_pos ((inb_nI (by omega)).mpr (by omega)), nI_clamp (by omega), h.pl hb', a1]
        by_cases hv : lVl Λ b = 0
        · have e : vI (lVl Λ b) = 1 := if_pos hv
          rw [if_pos (neq li_0 hv), e]
          by_cases hp : sP s b = 36
          · rw [if_pos ((plI_lt _ p36).mpr hp), if_pos hp]
            exact ih (b + 1) j _ _ (by omega) (by omega)
          · rw [if_neg (fun z => hp ((plI_lt _ p36).mp z)), if_neg hp]
            exact ih (b + 1) j _ _ (by omega) (by omega)
        · have e : vI (lVl Λ b) = 2 := if_neg hv
          rw [if_neg (nne li_0 (by omega) (by omega) hv), e]
          by_cases hp : sP s b = 36
          · rw [if_pos ((plI_lt _ p36).mpr hp), if_pos hp]
            exact ih (b + 1) j _ _ (by omega) (by omega)
          · rw [if_neg (fun z => hp ((plI_lt _ p36).mp z)), if_neg hp]
            exact ih (b + 1) j _ _ (by omega) (by omega)
      · rw [if_neg (nne li_3 (by omega) (by omega) (fun z => hk (kdN_3.mp z))), if_neg hk]
        exact ih (b + 1) j _ _ (by omega) (by omega)
    · rw [J_X2_lost_b6, h.nb, if_pos ((nI_leI (by omega) (by omega)).mpr (by omega)), lostK, if_neg hb']
theorem jc_lost (h : CC σ c Λ s) : J_X2_lost c σ = some (lostI Λ s) := by
  unfold J_X2_lost
  rw [li_0]
  exact jc_lostLoop h 9 0 FU _ _ rfl (by rw [FU_eq]; omega)
theorem or0 (x : Int32) : x ||| 0 = x := Int32.or_zero
end LOST
