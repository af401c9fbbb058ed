/-! the class: where one comes to -/
section REACH
variable {σ : Sg} {c : Nat} {Λ : LT} {s : ST}
theorem jc_openOff (pe b : Int32) : J_X2_isOpen c b (-4) pe σ = some 0 := by
  unfold J_X2_isOpen
  rw [jc_grassOff (by decide), bd1_s, if_pos rfl]
theorem openN_m {b y : Nat} {mt : Bool} (h : openN Λ s b y mt = true) : lM Λ y ≠ 9 := by
  unfold openN at h
  rw [Bool.and_eq_true] at h
  simpa using h.1
theorem slideN_stop {b way : Nat} {mt : Bool} {y : Nat} (h : ¬ (onN Λ s y = 8 ∧ sG s y = 0)) : ∀ k, slideN Λ s b way mt k y = y
  | 0 => rfl
  | k + 1 => by unfold slideN; rw [if_neg h]
theorem jc_slide (h : CC σ c Λ s) {b way : Nat} (hb : b < lNb Λ) (hw : way < 4) (pe : Bool) (hk : kdN Λ s b = 0) : ∀ (k st y j : Nat) (prev : Int32), st + k = 5 → (y = 36 ∨ y < lSq Λ ∧ dstN Λ y way ≤ k) → 7 < st + j → J_X2_reach_b66 c j (nI b) (nI way) (bI pe) (nI (kdN Λ s b)) prev (plI y) (nI st) σ = some (if y = 36 ∨ openN Λ s b y (!pe && decide (kdN Λ s b ≠ 2)) = false then prev else nI (slideN Λ s b way (!pe && decide (kdN Λ s b ≠ 2)) k y)) := by
  have h8 := h.nb8
  have h36 := h.sq36
  generalize hmt : (!pe && decide (kdN Λ s b ≠ 2)) = mt
  intro k
  induction k with
  | zero =>
    intro st y j prev hst hy hj
    obtain ⟨j, rfl⟩ : ∃ i, j = i + 2 := ⟨j - 2, by omega⟩
    rw [J_X2_reach_b66, if_neg (show ¬ (6 : Int32) ≤ nI st from nI_ge (a := st) (b := 6) (by omega) (by omega))]
    rcases hy with e | ⟨e1, e2⟩
    · rw [e, show plI 36 = (-4 : Int32) from rfl, jc_openOff, bd1_s, if_pos rfl, if_pos (Or.inl rfl)]
    · have e0 : ¬ y = 36 := by omega
      have g8 := (h.2.2.2.1 y e1).1
      rw [plI_of e0, jc_isOpen h hb e1 pe, hmt, bd1_s]
      by_cases e3 : openN Λ s b y mt = true
      · have m9 := openN_m e3
        have nz : ¬ (y = 36 ∨ openN Λ s b y mt = false) := by rw [e3]; simp [e0]
        rw [if_neg nz, e3, bI_t, if_neg (by decide), if_pos (neq li_0 hk), jc_grassOn h e1, bd1_s, if_neg m9]
        unfold slideN
        by_cases e4 : sG s y = 0
        · rw [e4, if_neg (by decide), jc_occ h (by omega), bd1_s]
          rcases onN_cases (s := s) h8 y with e5 | e5
          · have q : onI (onN Λ s y) = (-4 : Int32) := by rw [e5]; rfl
            have hn : nextN Λ y way = 36 := by rcases (dstN_next h.2.2.1 e1 hw).1 with z | z <;> omega
            rw [if_pos q, jc_beside h e1 hw, bd1_s, J_X2_reach_b66, li_1, nI_add, if_pos (show (6 : Int32) ≤ nI (st + 1) from nI_le (a := 6) (b := st + 1) (by omega) (by omega))]
          · have q : ¬ onI (onN Λ s y) = (-4 : Int32) := by
              have : onI (onN Λ s y) = nI (onN Λ s y) := if_neg (by omega)
              rw [this]; exact nI_nem4 (by omega)
            rw [if_neg q]
        · rw [if_pos (show (0 : Int32) < nI (sG s y) from by rw [li_0, nI_ltI (by omega) (by omega)]; omega)]
      · have e6 : openN Λ s b y mt = false := by simpa using e3
        rw [e6, bI_f, if_pos rfl, if_pos (Or.inr rfl)]
  | succ k ih =>
    intro st y j prev hst hy hj
    obtain ⟨j, rfl⟩ : ∃ i, j = i + 1 := ⟨j - 1, by omega⟩
    rw [J_X2_reach_b66, if_neg (show ¬ (6 : Int32) ≤ nI st from nI_ge (a := st) (b := 6) (by omega) (by omega))]
    rcases hy with e | ⟨e1, e2⟩
    · rw [e, show plI 36 = (-4 : Int32) from rfl, jc_openOff, bd1_s, if_pos rfl, if_pos (Or.inl rfl)]
    · have e0 : ¬ y = 36 := by omega
      have g8 := (h.2.2.2.1 y e1).1
      rw [plI_of e0, jc_isOpen h hb e1 pe, hmt, bd1_s]
      by_cases e3 : openN Λ s b y mt = true
      · have m9 := openN_m e3
        have nz : ¬ (y = 36 ∨ openN Λ s b y mt = false) := by rw [e3]; simp [e0]
        rw [if_neg nz, e3, bI_t, if_neg (by decide), if_pos (neq li_0 hk), jc_grassOn h e1, bd1_s, if_neg m9]
        by_cases e4 : sG s y = 0
        · have q0 : ¬ (0 : Int32) < nI (sG s y) := by rw [e4]; decide
          rw [if_neg q0, jc_occ h (by omega), bd1_s]
          rcases onN_cases (s := s) h8 y with e5 | e5
          · have q : onI (onN Λ s y) = (-4 : Int32) := by rw [e5]; rfl
            have hy' : nextN Λ y way = 36 ∨ nextN Λ y way < lSq Λ ∧ dstN Λ (nextN Λ y way) way ≤ k := by
              rcases (dstN_next h.2.2.1 e1 hw).1 with z | z
              · exact Or.inl z
              · rcases nextN_lt h.2.2.1 e1 hw with z2 | z2
                · exact Or.inl z2
                · exact Or.inr ⟨z2, by omega⟩
            rw [if_pos q, jc_beside h e1 hw, bd1_s, li_1, nI_add, ih (st + 1) _ j _ (by omega) hy' (by omega)]
            have un : slideN Λ s b way mt (k + 1) y = (if stepN Λ s b y way mt = 36 then y else slideN Λ s b way mt k (stepN Λ s b y way mt)) := by rw [slideN, if_pos ⟨e5, e4⟩]
            rw [un]
            by_cases e7 : nextN Λ y way = 36
            · have e10 : stepN Λ s b y way mt = 36 := by unfold stepN; rw [if_pos e7]
              rw [if_pos (Or.inl e7), if_pos e10]
            · by_cases e8 : openN Λ s b (nextN Λ y way) mt = true
              · have nz2 : ¬ (nextN Λ y way = 36 ∨ openN Λ s b (nextN Λ y way) mt = false) := by rw [e8]; simp [e7]
                have e10 : stepN Λ s b y way mt = nextN Λ y way := by unfold stepN; rw [if_neg e7, if_pos e8]
                rw [if_neg nz2, e10, if_neg e7]
              · have e9 : openN Λ s b (nextN Λ y way) mt = false := by simpa using e8
                have e10 : stepN Λ s b y way mt = 36 := by unfold stepN; rw [if_neg e7, if_neg e8]
                rw [if_pos (Or.inr e9), if_pos e10]
          · have q : ¬ onI (onN Λ s y) = (-4 : Int32) := by
              have : onI (onN Λ s y) = nI (onN Λ s y) := if_neg (by omega)
              rw [this]; exact nI_nem4 (by omega)
            rw [if_neg q, slideN_stop (fun z => by omega)]
        · rw [if_pos (show (0 : Int32) < nI (sG s y) from by rw [li_0, nI_ltI (by omega) (by omega)]; omega), slideN_stop (fun z => e4 z.2)]
      · have e6 : openN Λ s b y mt = false := by simpa using e3
        rw [e6, bI_f, if_pos rfl, if_pos (Or.inr rfl)]
/-- from the place on -/
theorem jc_reach66 (h : CC σ c Λ s) {b way : Nat} (hb : b < lNb Λ) (hp : sP s b ≠ 36) (hw : way < 4) (pe : Bool) : (bd1 (J_X2_placeOf c (nI b) σ) fun r54 => bd1 (J_X1_beside (lnd c) r54 (nI way) σ) fun r58 => J_X2_reach_b66 c FU (nI b) (nI way) (bI pe) (nI (kdN Λ s b)) (-4 : Int32) r58 (0 : Int32) σ) = some (plI (comeT Λ s b way (!pe && decide (kdN Λ s b ≠ 2)))) := by
  have h8 := h.nb8
  have h36 := h.sq36
  have k3 := kdN_le (s := s) h.2.2.1 hb
  have pS : sP s b < lSq Λ := by rcases h.2.2.2.2.1 b hb with z | z <;> omega
  rw [jc_placeOf h hb, bd1_s, plI_of hp, jc_beside h pS hw, bd1_s]
  have hn := nextN_lt h.2.2.1 pS hw
  by_cases hk : kdN Λ s b = 0
  · have z := jc_slide h hb hw pe hk 5 0 (nextN Λ (sP s b) way) FU (-4) rfl (by
      rcases hn with z | z
      · exact Or.inl z
      · exact Or.inr ⟨z, (dstN_next h.2.2.1 z hw).2⟩) (by rw [FU_eq]; omega)
    rw [li_0, z]
    unfold comeT stepN
    by_cases e7 : nextN Λ (sP s b) way = 36
    · rw [if_pos (Or.inl e7), if_pos e7, if_pos rfl]
      rfl
    · by_cases e8 : openN Λ s b (nextN Λ (sP s b) way) (!pe && decide (kdN Λ s b ≠ 2)) = true
      · have nz2 : ¬ (nextN Λ (sP s b) way = 36 ∨ openN Λ s b (nextN Λ (sP s b) way) (!pe && decide (kdN Λ s b ≠ 2)) = false) := by rw [e8]; simp [e7]
        have yS : nextN Λ (sP s b) way < lSq Λ := by rcases hn with z | z <;> omega
        have sl : ∀ (k to : Nat), to < lSq Λ → slideN Λ s b way (!pe && decide (kdN Λ s b ≠ 2)) k to < lSq Λ := by
          intro k
          induction k with
          | zero => intro to ht; exact ht
          | succ k ih =>
            intro to ht
            unfold slideN
            split
            · split
              · exact ht
              · rcases stepN_lt (s := s) (b := b) h.2.2.1 ht hw (!pe && decide (kdN Λ s b ≠ 2)) with z | ⟨-, z⟩
                · contradiction
                · exact ih _ z
            · exact ht
        have s1 := sl 5 _ yS
        rw [if_neg nz2, if_neg e7, if_pos e8, if_neg e7, if_pos hk, plI_of (by omega)]
      · have e9 : openN Λ s b (nextN Λ (sP s b) way) (!pe && decide (kdN Λ s b ≠ 2)) = false := by simpa using e8
        rw [if_pos (Or.inr e9), if_neg e7, if_neg e8, if_pos rfl]
        rfl
  · rw [FU_eq]
    show J_X2_reach_b66 c (999999999999999 + 1) _ _ _ _ _ _ _ _ = _
    rw [J_X2_reach_b66, if_neg (by decide)]
    unfold comeT stepN
    by_cases e7 : nextN Λ (sP s b) way = 36
    · rw [e7, show plI 36 = (-4 : Int32) from rfl, jc_openOff, bd1_s, if_pos rfl, if_pos rfl, if_pos rfl]
      rfl
    · have yS : nextN Λ (sP s b) way < lSq Λ := by rcases hn with z | z <;> omega
      rw [plI_of e7, jc_isOpen h hb yS pe, bd1_s, if_neg e7]
      by_cases e8 : openN Λ s b (nextN Λ (sP s b) way) (!pe && decide (kdN Λ s b ≠ 2)) = true
      · rw [e8, bI_t, if_neg (by decide), if_neg (nne li_0 (by omega) (by omega) hk), if_pos rfl, if_neg e7, if_neg hk, plI_of e7]
      · have e9 : openN Λ s b (nextN Λ (sP s b) way) (!pe && decide (kdN Λ s b ≠ 2)) = false := by simpa using e8
        rw [e9, bI_f, if_pos rfl, if_neg (show ¬ (false : Bool) = true from Bool.false_ne_true), if_pos rfl]
        rfl
end REACH
