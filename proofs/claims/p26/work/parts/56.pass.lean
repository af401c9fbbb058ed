/-! a day goes by -/
def passS (Λ : LT) (s : ST) : ST := nextS Λ (graS Λ s)
theorem graB_D {Λ : LT} {s : ST} {b : Nat} : sD (graB Λ s b) = sD s := by
  unfold graB
  split
  · rfl
  · split <;> rfl
theorem graK_D {Λ : LT} {s : ST} : ∀ n, sD (graK Λ s n) = sD s
  | 0 => rfl
  | n + 1 => by
    show sD (graB Λ (graK Λ s n) n) = sD s
    rw [graB_D, graK_D n]
theorem graS_D {Λ : LT} {s : ST} : sD (graS Λ s) = sD s := graK_D _
theorem nextS_D {Λ : LT} {s : ST} : sD (nextS Λ s) = sD s + 1 := by
  unfold nextS
  split <;> rfl
theorem passS_D {Λ : LT} {s : ST} : sD (passS Λ s) = sD s + 1 := by
  unfold passS
  rw [nextS_D, graS_D]
/-- where one is driven to on this day; 36: it can not be -/
def drvN (Λ : LT) (s : ST) (b way : Nat) : Nat := if b < lNb Λ ∧ way < 4 ∧ lVl Λ b = sD s % 2 then reachT Λ s b way (mtN Λ s b true) else 36
/-- a day as it is told -/
def livS (Λ : LT) (s : ST) (d : Nat) : ST := if d = 99 then passS Λ s else if drvN Λ s (d / 10) (d % 10) = 36 then passS Λ s else passS Λ (movS Λ s (d / 10) (drvN Λ s (d / 10) (d % 10)))
theorem livS_D {Λ : LT} {s : ST} {d : Nat} : sD (livS Λ s d) = sD s + 1 := by
  unfold livS
  split
  · exact passS_D
  · split
    · exact passS_D
    · rw [passS_D]; rfl
theorem drvN_ok {Λ : LT} {s : ST} (hΛ : LOK Λ) (hs : SOK Λ s) {b way : Nat} (e : drvN Λ s b way ≠ 36) : b < lNb Λ ∧ way < 4 ∧ lVl Λ b = sD s % 2 ∧ sP s b ≠ 36 ∧ ¬ (kdN Λ s b = 2 ∧ way ≠ (if lVl Λ b = 0 then 0 else 2)) ∧ drvN Λ s b way = reachT Λ s b way (mtN Λ s b true) ∧ drvN Λ s b way = comeT Λ s b way (mtN Λ s b true) ∧ drvN Λ s b way < lSq Λ ∧ lM Λ (drvN Λ s b way) ≠ 9 := by
  unfold drvN at e ⊢
  by_cases c : b < lNb Λ ∧ way < 4 ∧ lVl Λ b = sD s % 2
  · rw [if_pos c] at e ⊢
    obtain ⟨h1, h2, h3⟩ := reachT_come e
    have h4 := reachT_ok hΛ hs c.1 c.2.1 e
    exact ⟨c.1, c.2.1, c.2.2, h1, h2, rfl, h3, h4.1, h4.2.1⟩
  · rw [if_neg c] at e; exact absurd rfl e
theorem drvN_le {Λ : LT} {s : ST} (hΛ : LOK Λ) (hs : SOK Λ s) {b way : Nat} : drvN Λ s b way ≤ 36 := by
  by_cases e : drvN Λ s b way = 36
  · omega
  · have := hΛ.sq.2.1
    have := (drvN_ok hΛ hs e).2.2.2.2.2.2.2.1
    omega
section PASS
variable {σ : Sg} {c : Nat} {Λ : LT} {s : ST}
theorem jc_pass (h : CC σ c Λ s) (hc : 9 ≤ c) (hd : sD s < 2 ^ 29) : ∃ σ', J_X2_passDay c σ = some ((), σ') ∧ CC σ' c Λ (passS Λ s) ∧ Fr (fun a => c ≤ a ∧ a ≤ c + 4) σ σ' := by
  have hl := lnd_lt hc
  obtain ⟨σ1, r1, r2, r3⟩ := jc_graze h hc
  obtain ⟨σ2, t1, t2, t3⟩ := jc_nextDay r2 (by rw [graS_D]; omega) ⟨by omega, by omega, by omega⟩ ⟨by omega, by omega, by omega⟩
  refine ⟨σ2, ?_, t2, Fr.tr (r3.mono fun a z => by omega) (t3.mono fun a z => by omega)⟩
  unfold J_X2_passDay
  rw [r1, bd2_s, t1, bd2_s]
theorem day2 (d : Nat) : (nI d &&& (1 : Int32)) = nI (d % 2) := by
  rw [← Nat.and_one_is_mod, li_1]
  apply Int32.toBitVec_inj.1
  show (nI d).toBitVec &&& (nI 1).toBitVec = (nI (d &&& 1)).toBitVec
  exact BitVec.ofNat_and.symm
theorem jc_turn (h : CC σ c Λ s) (hd : sD s < 2 ^ 29) : J_X2_turn c σ = some (nI (sD s % 2)) := by
  have q : σ c 5 = nI (sD s) := h.2.1.1
  unfold J_X2_turn
  rw [q, day2]
theorem bI_comm {pe : Bool} {k : Nat} : (!pe && decide (k ≠ 2)) = (true && (decide (k ≠ 2) && !pe)) := by
  cases pe <;> simp
theorem jl_villOff {l : Nat} {b : Int32} (h : ¬ (0 ≤ b ∧ b < σ l 3)) : J_X1_villageOf l b σ = some (-4) := by
  unfold J_X1_villageOf
  by_cases e : b < 0
  · rw [if_pos e]
  · rw [if_neg e]
    have e1 : 0 ≤ b := Int32.not_lt.mp e
    have e2 : σ l 3 ≤ b := Int32.not_lt.mp (fun z => h ⟨e1, z⟩)
    rw [if_pos e2]
theorem jc_beside4 {x : Int32} {way : Nat} (hw : 4 ≤ way) (hw2 : way < 10) : J_X1_beside (lnd c) x (nI way) σ = some (-4) := by
  have ne : ∀ k, k < 4 → ¬ nI way = nI k := fun k hk z => by have := (nI_inj (by omega) (by omega)).mp z; omega
  unfold J_X1_beside
  split
  · rfl
  · split
    · rfl
    · split
      · simp only [ne 0 (by omega), ne 1 (by omega), ne 2 (by omega), ne 3 (by omega), li_0, li_1, li_2, li_3, ↓reduceIte]
      · rfl
theorem jc_reach4 (h : CC σ c Λ s) {b way : Nat} (hb : b < lNb Λ) (hw : 4 ≤ way) (hw2 : way < 10) (pe : Bool) : J_X2_reach c (nI b) (nI way) (bI pe) σ = some (-4) := by
  have k3 := kdN_le (s := s) h.2.2.1 hb
  have v1 := (h.2.2.1.2.2.2.2.2.2.2.1 b hb).2
  have key : (bd1 (J_X2_placeOf c (nI b) σ) fun r54 => bd1 (J_X1_beside (lnd c) r54 (nI way) σ) fun r58 => J_X2_reach_b66 c FU (nI b) (nI way) (bI pe) (nI (kdN Λ s b)) (-4) r58 0 σ) = some (-4) := by
    rw [jc_placeOf h hb, bd1_s, jc_beside4 hw hw2, bd1_s, FU_eq]
    show J_X2_reach_b66 c (999999999999999 + 1) _ _ _ _ _ _ _ _ = _
    rw [J_X2_reach_b66, if_neg (by decide), jc_openOff, bd1_s, if_pos rfl]
  unfold J_X2_reach
  rw [jc_kindOf h hb, bd1_s, jc_isOff h hb, bd1_s]
  by_cases hp : sP s b = 36
  · rw [if_pos hp, if_neg (show ¬ (1 : Int32) = 0 by decide)]
  · rw [if_neg hp, if_pos rfl]
    by_cases hk : kdN Λ s b = 2
    · rw [if_pos (neq li_2 hk), jc_villageOf h hb, bd1_s]
      by_cases hv : lVl Λ b = 0
      · rw [if_pos (neq li_0 hv)]
        unfold J_X2_reach_b38
        rw [if_neg (nne li_0 (by omega) (by omega) (by omega))]
      · rw [if_neg (nne li_0 (by omega) (by omega) hv)]
        unfold J_X2_reach_b38
        rw [if_neg (nne li_2 (by omega) (by omega) (by omega))]
    · rw [if_neg (nne li_2 (by omega) (by omega) hk)]
      exact key
theorem jc_driven (h : CC σ c Λ s) (hd : sD s < 2 ^ 29) {b way : Nat} (hb : b < 2 ^ 20) (hw : way < 10) : J_X2_driven c (nI b) (nI way) σ = some (plI (drvN Λ s b way)) := by
  have h8 := h.nb8
  have m2 : sD s % 2 < 2 := Nat.mod_lt _ (by decide)
  unfold J_X2_driven drvN
  by_cases hb' : b < lNb Λ
  · have v1 := (h.2.2.1.2.2.2.2.2.2.2.1 b hb').2
    rw [jc_villageOf h hb', bd1_s, jc_turn h hd, bd1_s]
    by_cases e : lVl Λ b = sD s % 2
    · rw [if_pos (by rw [e]), jc_snowing h (by omega), bd1_s]
      by_cases hw' : way < 4
      · rw [jc_reach h hb' hw', bd1_s, if_pos ⟨hb', hw', e⟩, bI_comm]
        rfl
      · rw [jc_reach4 h hb' (by omega) hw, bd1_s, if_neg (fun z => hw' z.2.1)]
        rfl
    · rw [if_neg (fun z => e ((nI_inj (by omega) (by omega)).mp z)), if_neg (fun z => e z.2.2)]
      rfl
  · rw [jl_villOff (by rw [h.nb]; intro z; have := (nI_ltI (by omega) (by omega)).mp z.2; omega), bd1_s, jc_turn h hd, bd1_s, if_neg (fun z => m4_ne (by omega) z), if_neg (fun z => hb' z.1)]
    rfl
theorem jc_live (h : CC σ c Λ s) (hc : 9 ≤ c) (hd : sD s < 2 ^ 29) {d : Nat} (hd2 : d < 1000) : ∃ σ', J_X2_live c (nI d) σ = some ((), σ') ∧ CC σ' c Λ (livS Λ s d) ∧ Fr (fun a => c ≤ a ∧ a ≤ c + 4) σ σ' := by
  unfold J_X2_live livS
  by_cases e : d = 99
  · rw [if_pos (neq li_99 e), if_pos e]
    obtain ⟨σ1, r1, r2, r3⟩ := jc_pass h hc hd
    refine ⟨σ1, ?_, r2, r3⟩
    rw [r1, bd2_s]
  · rw [if_neg (nne li_99 (by omega) (by omega) e), if_neg e, li_10, nI_div (by omega) (by omega), rmI_nI (by omega) (by omega), jc_driven h hd (by omega) (by omega), bd1_s]
    by_cases e1 : drvN Λ s (d / 10) (d % 10) = 36
    · rw [if_pos e1, e1, if_pos (by decide)]
      obtain ⟨σ1, r1, r2, r3⟩ := jc_pass h hc hd
      refine ⟨σ1, ?_, r2, r3⟩
      rw [r1, bd2_s]
    · obtain ⟨q1, q2, q3, q4, q5, q6, q7, q8, q9⟩ := drvN_ok h.2.2.1 h.2.2.2 e1
      rw [if_neg e1, plI_of e1, if_neg (nI_nem4 (by have := h.sq36; omega))]
      obtain ⟨σ1, r1, r2, r3⟩ := jc_move h hc q1 q4 q8 q9
      obtain ⟨σ2, t1, t2, t3⟩ := jc_pass r2 hc hd
      refine ⟨σ2, ?_, t2, Fr.tr (r3.mono fun a z => by omega) t3⟩
      rw [r1, bd2_s, t1, bd2_s]
end PASS
