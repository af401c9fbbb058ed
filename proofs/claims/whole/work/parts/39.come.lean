/-! where one comes to, driven a way -/
def snowN (Λ : LT) (s : ST) : Bool := decide (0 < lSn Λ) && decide (lSw Λ (sD s % lSn Λ) = 1)
def mtN (Λ : LT) (s : ST) (b : Nat) (war : Bool) : Bool := war && (decide (kdN Λ s b ≠ 2) && !snowN Λ s)
def comeT (Λ : LT) (s : ST) (b way : Nat) (mt : Bool) : Nat := if stepN Λ s b (sP s b) way mt = 36 then 36 else if kdN Λ s b = 0 then slideN Λ s b way mt 5 (stepN Λ s b (sP s b) way mt) else stepN Λ s b (sP s b) way mt
def wrongW (Λ : LT) (s : ST) (b way : Nat) : Prop := kdN Λ s b = 2 ∧ way ≠ (if lVl Λ b = 0 then 0 else 2)
section COME
variable {σ : Sg} {c : Nat} {Λ : LT} {s : ST}
theorem jm_isSnow (h : MS σ Λ s) (hd : sD s < 2 ^ 30) : J_X8_isSnow σ = some (bI (snowN Λ s)) := by
  have q0 : σ 157 0 = nI (sD s) := h.2.1.1
  have q8 : σ 141 8 = nI (lSn Λ) := h.1.2.2.2.2.2.1
  have n9 := h.2.2.1.2.2.2.2.1
  unfold J_X8_isSnow snowN
  rw [q0, q8]
  by_cases e : lSn Λ = 0
  · rw [e, if_pos (by decide)]
    rfl
  · rw [if_neg (nI_nle (by omega) (by omega)), if_neg (nne li_0 (by omega) (by omega) e), rmI_nI (by omega) (by omega)]
    have hm : sD s % lSn Λ < lSn Λ := Nat.mod_lt _ (by omega)
    generalize sD s % lSn Λ = k at hm ⊢
    have d : decide (0 < lSn Λ) = true := by simp; omega
    have s1 := h.2.2.1.2.2.2.2.2.2.2.2 k hm
    rw [if_pos ((inb_nI (by omega)).mpr (by omega)), nI_clamp (by omega), h.1.2.2.2.2.2.2.2.2.2 k hm, d, Bool.true_and]
    by_cases e2 : lSw Λ k = 1
    · rw [if_pos (neq li_1 e2)]
      simp [e2, bI]
    · rw [if_neg (nne li_1 (by omega) (by omega) e2)]
      simp [e2, bI]
/-- the goal of a step, whom it takes -/
def tkI (Λ : LT) (s : ST) (to : Nat) : Int32 := if to = 36 then -4 else onI (onN Λ s to)
theorem jm_come62 (h : MS σ Λ s) {b way : Nat} (hb : b < lNb Λ) (hp : sP s b ≠ 36) (hw : way < 4) (mt : Bool) : J_X8_comesTo_b62 (nI b) (nI way) (nI (kdN Λ s b)) (bI mt) (up σ 141 32 (-4)) = some (plI (comeT Λ s b way mt), up σ 141 32 (tkI Λ s (comeT Λ s b way mt))) := by
  have h8 := h.nb8
  have h36 := h.sq36
  have k3 := kdN_le (s := s) h.2.2.1 hb
  have hu : MS (up σ 141 32 (-4)) Λ s := h.up32
  have pS : sP s b < lSq Λ := by rcases h.2.2.2.2.1 b hb with z | z <;> omega
  unfold J_X8_comesTo_b62
  rw [show (37 : Int32) + nI b = nI (37 + b) by rw [li_37, nI_add], if_pos ((inb_nI (by omega)).mpr (by omega)), nI_clamp (by omega), hu.pl hb, jm_stepTo hu hb pS hw mt, bd1_s]
  have z0 : ∀ (w x : Int32), J_X8_comesTo_b120 FU (nI b) (nI way) (bI mt) x (0 : Int32) (up (up σ 141 32 (-4)) 141 32 w) = some (x, up σ 141 32 w) := by
    intro w x
    rw [FU_eq, up_up]
    show J_X8_comesTo_b120 (999999999999999 + 1) _ _ _ _ _ _ = _
    rw [J_X8_comesTo_b120, if_pos rfl]
  rcases stepN_lt (s := s) (b := b) h.2.2.1 pS hw mt with e1 | ⟨-, e1⟩
  · have e2 : comeT Λ s b way mt = 36 := by unfold comeT; rw [if_pos e1]
    rw [e1, if_neg (by decide), e2]
    unfold J_X8_comesTo_b100
    split
    · rw [if_pos (by decide), z0]
      rfl
    · rw [z0]
      rfl
  · have e3 : ¬ stepN Λ s b (sP s b) way mt = 36 := by omega
    rw [plI_of e3, if_pos (nI_ge0 (by omega)), jm_onIt hu (by omega), bd1_s]
    unfold J_X8_comesTo_b100
    by_cases e4 : kdN Λ s b = 0
    · have e2 : comeT Λ s b way mt = slideN Λ s b way mt 5 (stepN Λ s b (sP s b) way mt) := by unfold comeT; rw [if_neg e3, if_pos e4]
      rw [if_pos (neq li_0 e4), if_neg (nI_nlt0 (by omega)), up_up, e2]
      have hs := jm_slide h hb hw mt 5 (stepN Λ s b (sP s b) way mt) FU e1 (dstN_next h.2.2.1 e1 hw).2 (by rw [FU_eq]; omega)
      rw [hs]
      have sl : ∀ (k to : Nat), to < lSq Λ → slideN Λ s b way mt k to < lSq Λ := by
        intro k
        induction k with
        | zero => intro to ht; exact ht
        | succ k ih =>
          intro to ht
          unfold slideN
          split
          · split
            · exact ht
            · rcases stepN_lt (s := s) (b := b) h.2.2.1 ht hw mt with z | ⟨-, z⟩
              · contradiction
              · exact ih _ z
          · exact ht
      have s1 := sl 5 _ e1
      have e5 : ¬ slideN Λ s b way mt 5 (stepN Λ s b (sP s b) way mt) = 36 := by omega
      rw [plI_of e5]
      unfold tkI
      rw [if_neg e5]
    · have e2 : comeT Λ s b way mt = stepN Λ s b (sP s b) way mt := by unfold comeT; rw [if_neg e3, if_neg e4]
      rw [if_neg (nne li_0 (by omega) (by omega) e4), z0, e2, plI_of e3]
      unfold tkI
      rw [if_neg e3]
theorem jm_come40 (h : MS σ Λ s) (hd : sD s < 2 ^ 30) {b way : Nat} (hb : b < lNb Λ) (hp : sP s b ≠ 36) (hw : way < 4) (war : Bool) : J_X8_comesTo_b40 (nI b) (nI way) (bI war) (nI (kdN Λ s b)) (up σ 141 32 (-4)) = some (plI (comeT Λ s b way (mtN Λ s b war)), up σ 141 32 (tkI Λ s (comeT Λ s b way (mtN Λ s b war)))) := by
  have k3 := kdN_le (s := s) h.2.2.1 hb
  have hu : MS (up σ 141 32 (-4)) Λ s := h.up32
  have m0 := jm_come62 h hb hp hw false
  have m1 := jm_come62 h hb hp hw true
  unfold J_X8_comesTo_b40 mtN
  cases war
  · rw [bI_f, if_pos rfl, Bool.false_and]
    exact m0
  · rw [bI_t, if_neg (by decide), Bool.true_and]
    by_cases e : kdN Λ s b = 2
    · have d : decide (kdN Λ s b ≠ 2) = false := by simp [e]
      rw [if_pos (neq li_2 e), d, Bool.false_and]
      exact m0
    · have d : decide (kdN Λ s b ≠ 2) = true := by simp [e]
      rw [if_neg (nne li_2 (by omega) (by omega) e), jm_isSnow hu hd, bd1_s, d, Bool.true_and]
      cases snowN Λ s
      · rw [bI_f, if_pos rfl]
        exact m1
      · rw [bI_t, if_neg (by decide)]
        exact m0
end COME
