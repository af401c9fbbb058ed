/-! call: summer -/
def dayF (Λ : LT) (v : Nat) (s : ST) : Nat → Nat → Option (Nat × List Nat)
  | 0, _ => none
  | k + 1, n => match smF Λ v n s with
    | some r => some (n, r)
    | none => dayF Λ v s k (n + 1)
def ansS (v D : Nat) (a : Int32) (p : Nat × List Nat) : Int32 := if a = -1 then nI p.1 else if a ≤ 2 then (if p.1 ≤ 2 * a.toNatClampNeg + ofD v D then -4 else nI (p.2.getD (2 * a.toNatClampNeg + ofD v D) 0)) else -4
def Ws (a j : Nat) : Prop := a = 157 ∨ (a = 141 ∧ j = 32) ∨ a = 162 ∨ a = 163 ∨ a = 164
section SUMMER4
variable {σ : Sg} {D : Nat} {Λ : LT} {s : ST}
theorem GL.ws {L a j : Nat} (h : GL L a j) : Ws a j := by
  rcases h.no with w | w | w | w | w
  · exact Or.inl w
  · exact Or.inr (Or.inl w)
  · exact Or.inr (Or.inr (Or.inl w.1))
  · exact Or.inr (Or.inr (Or.inr (Or.inl w.1)))
  · exact Or.inr (Or.inr (Or.inr (Or.inr w.1)))
theorem Ws.no {a j : Nat} (h : Ws a j) : a = 157 ∨ (a = 141 ∧ j = 32) ∨ a = 162 ∨ a = 163 ∨ a = 164 := h
theorem Ws.wk {a j : Nat} (h : Ws a j) : Wk a j := by
  rcases h.no with w | w | w | w | w
  · exact Or.inr (Or.inr (Or.inl (by omega)))
  · exact Or.inr (Or.inr (Or.inr (Or.inl ⟨w.1, by omega⟩)))
  · exact Or.inr (Or.inr (Or.inl (by omega)))
  · exact Or.inr (Or.inr (Or.inl (by omega)))
  · exact Or.inr (Or.inr (Or.inl (by omega)))
theorem gt5 {i : Nat} (h : i < 1000) : ((5 : Int32) < nI i) ↔ 5 < i := by rw [li_5]; exact nI_ltI (by omega) (by omega)
theorem jc_sm14 {v : Nat} (hv : v ≤ 1) (hw : lWl Λ ≠ 36) (hd : sD s < 2 ^ 26) : ∀ (k n j : Nat) (σ : Sg), n + k = 6 → k < j → (n = 0 ∨ smF Λ v (n - 1) s = none) → CC σ 95 Λ s → ∃ σ', J_X0_daysToWell_b14 j (nI v) (nI n) σ = some (match dayF Λ v s k n with
    | some p => nI p.1
    | none => -4, σ') ∧ Fr (FS 0) σ σ' ∧ (∀ p, dayF Λ v s k n = some p → p.1 ≤ 5 ∧ PF v 0 (sD s) p.1 p.2 σ') := by
  intro k
  induction k with
  | zero =>
    intro n j σ hi hj hN h
    obtain ⟨j, rfl⟩ : ∃ i, j = i + 1 := ⟨j - 1, by omega⟩
    refine ⟨σ, ?_, Fr.rf, fun p z => absurd z (by simp [dayF])⟩
    rw [J_X0_daysToWell_b14, if_pos ((gt5 (by omega)).mpr (by omega))]
    rfl
  | succ k ih =>
    intro n j σ hi hj hN h
    obtain ⟨j, rfl⟩ : ∃ i, j = i + 1 := ⟨j - 1, by omega⟩
    obtain ⟨σ1, r1, r2, r3⟩ := jc_sm (n := n) (v := v) (by omega) hw hv n 0 FR s 0 σ (by omega) (show n < 12 by omega) (Nat.le_refl _) (by omega) hN h
    rw [J_X0_daysToWell_b14, if_neg (fun z => by have := (gt5 (by omega)).mp z; omega), show J_X0_comesToWell FR 0 (nI n) (nI v) 0 σ = _ from r1, bd2_s, dayF]
    cases q : smF Λ v n s with
    | some r =>
      rw [if_neg (show ¬ sI (some r) = 0 from (by decide : ¬ (1 : Int32) = 0))]
      refine ⟨σ1, rfl, r2, fun p z => ?_⟩
      rw [← Option.some.inj z]
      exact ⟨by show n ≤ 5; omega, r3 r q⟩
    | none =>
      rw [if_pos (show sI none = 0 from rfl), show nI n + (1 : Int32) = nI (n + 1) from by rw [li_1, nI_add]]
      obtain ⟨σ2, t1, t2, t3⟩ := ih (n + 1) j σ1 (by omega) (by omega) (Or.inr q) (CC.fs (l := 0) (by decide) h r2)
      exact ⟨σ2, t1, r2.tr t2, t3⟩
theorem jc_onOwn {v n : Nat} {r : List Nat} (hn : n ≤ 5) (h : PF v 0 D n r σ) {a : Int32} (ha : -1 ≤ a) (hne : ¬ a = -1) : J_X0_onOwnDay a σ = some (ansS v D a (n, r)) := by
  have o1 : ofD v D ≤ 1 := by unfold ofD; split <;> omega
  unfold J_X0_onOwnDay ansS
  rw [h.1, if_neg hne, Nat.zero_add]
  rcases i_cases a (show 3 < 2 ^ 31 by decide) with ⟨k, hk, rfl⟩ | z | z
  · rw [if_neg (nI_nlt0 (by omega)), if_pos (show nI k ≤ 2 from by rw [li_2, nI_leI (by omega) (by omega)]; omega), nI_clamp (by omega)]
    by_cases e : n ≤ 2 * k + ofD v D
    · rw [if_pos ((nI_leI (by omega) (by omega)).mpr (by omega)), if_pos e]
    · have q := h.2 k (by omega)
      rw [Nat.zero_add] at q
      rw [if_neg (fun z => by have := (nI_leI (by omega) (by omega)).mp z; omega), if_neg (show ¬ (5 : Int32) ≤ nI k from by rw [li_5, nI_leI (by omega) (by omega)]; omega), if_pos ((inb_nI (by omega)).mpr (by omega)), q, if_neg e]
  · exfalso
    have h1 := Int32.lt_iff_toInt_lt.mp z
    have h2 := Int32.le_iff_toInt_le.mp ha
    have e0 : (0 : Int32).toInt = 0 := by decide
    have e1 : (-1 : Int32).toInt = -1 := by decide
    rw [e0] at h1
    rw [e1] at h2
    exact hne (Int32.toInt_inj.mp (by rw [e1]; omega))
  · have h3 : nI ((n + 1 - ofD v D) / 2) ≤ a := by
      have h2 := Int32.le_iff_toInt_le.mp z
      apply Int32.le_iff_toInt_le.mpr
      rw [nI_toInt (by decide)] at h2
      rw [nI_toInt (by omega)]
      omega
    rw [if_neg (ge_n0 (by decide) z), if_pos h3, if_neg (show ¬ a ≤ (2 : Int32) from Int32.not_le.mpr (ge_lt (m := 2) (n := 3) (by decide) (by decide) z))]
end SUMMER4
