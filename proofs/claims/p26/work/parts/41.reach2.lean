/-! where a sheep would come to, both sides whole -/
def reachT (Λ : LT) (s : ST) (b way : Nat) (mt : Bool) : Nat := if sP s b = 36 then 36 else if (kdN Λ s b = 2 ∧ way ≠ (if lVl Λ b = 0 then 0 else 2)) then 36 else comeT Λ s b way mt
section REACH2
variable {σ : Sg} {c : Nat} {Λ : LT} {s : ST}
theorem jc_reach (h : CC σ c Λ s) {b way : Nat} (hb : b < lNb Λ) (hw : way < 4) (pe : Bool) : J_X2_reach c (nI b) (nI way) (bI pe) σ = some (plI (reachT Λ s b way (!pe && decide (kdN Λ s b ≠ 2)))) := by
  have k3 := kdN_le (s := s) h.2.2.1 hb
  have v1 := (h.2.2.1.2.2.2.2.2.2.2.1 b hb).2
  unfold J_X2_reach reachT
  rw [jc_kindOf h hb, bd1_s, jc_isOff h hb, bd1_s]
  by_cases hp : sP s b = 36
  · rw [if_pos hp, if_neg (show ¬ (1 : Int32) = 0 by decide), if_pos hp]
    rfl
  · have e := jc_reach66 h hb hp hw pe
    rw [if_neg hp, if_pos rfl, if_neg hp]
    by_cases hk : kdN Λ s b = 2
    · rw [if_pos (neq li_2 hk), jc_villageOf h hb, bd1_s]
      by_cases hv : lVl Λ b = 0
      · rw [if_pos (neq li_0 hv)]
        unfold J_X2_reach_b38
        by_cases w0 : way = 0
        · rw [if_pos (neq li_0 w0), e, if_neg (show ¬ (kdN Λ s b = 2 ∧ way ≠ (if lVl Λ b = 0 then 0 else 2)) from fun z => z.2 (by rw [if_pos hv]; exact w0))]
        · rw [if_neg (nne li_0 (by omega) (by omega) w0), if_pos (show (kdN Λ s b = 2 ∧ way ≠ (if lVl Λ b = 0 then 0 else 2)) from ⟨hk, by rw [if_pos hv]; exact w0⟩)]
          rfl
      · rw [if_neg (nne li_0 (by omega) (by omega) hv)]
        unfold J_X2_reach_b38
        by_cases w0 : way = 2
        · rw [if_pos (neq li_2 w0), e, if_neg (show ¬ (kdN Λ s b = 2 ∧ way ≠ (if lVl Λ b = 0 then 0 else 2)) from fun z => z.2 (by rw [if_neg hv]; exact w0))]
        · rw [if_neg (nne li_2 (by omega) (by omega) w0), if_pos (show (kdN Λ s b = 2 ∧ way ≠ (if lVl Λ b = 0 then 0 else 2)) from ⟨hk, by rw [if_neg hv]; exact w0⟩)]
          rfl
    · rw [if_neg (nne li_2 (by omega) (by omega) hk), e, if_neg (show ¬ (kdN Λ s b = 2 ∧ way ≠ (if lVl Λ b = 0 then 0 else 2)) from fun z => hk z.1)]
theorem jc_snowsOn (h : CC σ c Λ s) (hd : sD s < 2 ^ 30) : J_X1_snowsOn (lnd c) (σ c 5) σ = some (bI (snowN Λ s)) := by
  have q0 : σ c 5 = nI (sD s) := h.2.1.1
  have q8 : σ (lnd c) 6 = nI (lSn Λ) := h.1.2.2.2.2.2.1
  have n9 := h.2.2.1.2.2.2.2.1
  unfold J_X1_snowsOn snowN
  rw [q0, q8]
  by_cases e : lSn Λ = 0
  · rw [e, if_pos (by decide)]
    rfl
  · rw [if_neg (show ¬ nI (lSn Λ) < (1 : Int32) from by rw [li_1, nI_ltI (by omega) (by omega)]; omega), if_neg (show ¬ (9 : Int32) < nI (lSn Λ) from by rw [li_9, nI_ltI (by omega) (by omega)]; omega), if_pos (nI_ge0 (by omega)), if_neg (nne li_0 (by omega) (by omega) e), rmI_nI (by omega) (by omega)]
    have hm : sD s % lSn Λ < lSn Λ := Nat.mod_lt _ (by omega)
    generalize sD s % lSn Λ = k at hm ⊢
    have d : decide (0 < lSn Λ) = true := by simp; omega
    have s1 := h.2.2.1.2.2.2.2.2.2.2.2 k hm
    rw [if_pos ((inb_nI (by omega)).mpr (by omega)), nI_clamp (by omega), h.1.2.2.2.2.2.2.2 k hm, d, Bool.true_and]
    by_cases e2 : lSw Λ k = 1
    · rw [if_pos (neq li_1 e2)]
      simp [e2, bI]
    · rw [if_neg (nne li_1 (by omega) (by omega) e2)]
      simp [e2, bI]
theorem jc_snowing (h : CC σ c Λ s) (hd : sD s < 2 ^ 30) : J_X2_snowing c σ = some (bI (snowN Λ s)) := by
  unfold J_X2_snowing
  rw [jc_snowsOn h hd, bd1_s]
  cases snowN Λ s
  · rfl
  · rfl
/-- a drive in the model: whom it takes -/
def takT (Λ : LT) (s : ST) (b way : Nat) (mt : Bool) : Int32 := if (kdN Λ s b = 2 ∧ way ≠ (if lVl Λ b = 0 then 0 else 2)) then -4 else tkI Λ s (comeT Λ s b way mt)
end REACH2
