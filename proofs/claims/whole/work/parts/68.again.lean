/-! calls: again, starves -/
def agaK (Λ : LT) (x : Nat) : Nat → Nat → ST → Int32
  | 0, _, _ => -4
  | k + 1, i, s => if sG s x = 0 then agaK Λ x k (i + 1) (passS Λ s) else nI i
def strK (Λ : LT) (b : Nat) : Nat → Nat → ST → Int32
  | 0, _, _ => -4
  | k + 1, i, s => if sP (passS Λ s) b = 36 then nI i else strK Λ b k (i + 1) (passS Λ s)
section AGAIN
variable {σ : Sg} {D : Nat} {Λ : LT} {s : ST}
theorem gt60 {i : Nat} (h : i < 1000) : ((60 : Int32) < nI i) ↔ 60 < i := by rw [li_60]; exact nI_ltI (by omega) (by omega)
theorem jc_againLoop {x : Nat} (hx : x < lSq Λ) (m9 : lM Λ x ≠ 9) : ∀ (k i j : Nat) (s : ST) (σ : Sg), i + k = 61 → k < j → sD s + k < 2 ^ 28 → CC σ 19 Λ s → ∃ σ', J_X7_again_b42 j (nI x) (nI i) σ = some (agaK Λ x k i s, σ') ∧ Fr (fun a => 19 ≤ a ∧ a ≤ 23) σ σ' := by
  intro k
  induction k with
  | zero =>
    intro i j s σ hi hj hd h
    obtain ⟨j, rfl⟩ : ∃ i, j = i + 1 := ⟨j - 1, by omega⟩
    refine ⟨σ, ?_, Fr.rf⟩
    rw [J_X7_again_b42, if_pos ((gt60 (by omega)).mpr (by omega))]
    rfl
  | succ k ih =>
    intro i j s σ hi hj hd h
    obtain ⟨j, rfl⟩ : ∃ i, j = i + 1 := ⟨j - 1, by omega⟩
    have g8 := (h.2.2.2.1 x hx).1
    rw [J_X7_again_b42, if_neg (fun z => by have := (gt60 (by omega)).mp z; omega), jc_grassOn h hx, bd1_s, if_neg m9, agaK]
    by_cases e : sG s x = 0
    · obtain ⟨σ1, r1, r2, r3⟩ := jc_pass h (by decide) (by omega)
      obtain ⟨σ2, t1, t2⟩ := ih (i + 1) j (passS Λ s) σ1 (by omega) (by omega) (by rw [passS_D]; omega) r2
      refine ⟨σ2, ?_, Fr.tr (r3.mono fun a z => z) t2⟩
      rw [if_pos (show nI (sG s x) ≤ 0 from by rw [e]; decide), r1, bd2_s, show nI i + (1 : Int32) = nI (i + 1) from by rw [li_1, nI_add], t1, if_pos e]
    · refine ⟨σ, ?_, Fr.rf⟩
      rw [if_neg (show ¬ nI (sG s x) ≤ 0 from by rw [li_0, nI_leI (by omega) (by omega)]; omega), if_neg e]
theorem jm_pass99 (h : MS σ Λ s) (hd : sD s < 2 ^ 28) : ∃ σ', J_X8_goesBy 99 σ = some ((), σ') ∧ MS σ' Λ (passS Λ s) ∧ Fs Wt σ σ' := by
  obtain ⟨σ', r1, r2, r3⟩ := jm_goesBy h hd (d := 99) (by decide) (Or.inl rfl)
  exact ⟨σ', r1, r2, r3⟩
theorem jm_againLoop {x : Nat} (hx : x < lSq Λ) : ∀ (k i j : Nat) (s : ST) (σ : Sg), i + k = 61 → k < j → sD s + k < 2 ^ 28 → MS σ Λ s → ∃ σ', J_X8_again_b30 j (nI x) (nI i) σ = some (agaK Λ x k i s, σ') ∧ Fs Wt σ σ' := by
  intro k
  induction k with
  | zero =>
    intro i j s σ hi hj hd h
    obtain ⟨j, rfl⟩ : ∃ i, j = i + 1 := ⟨j - 1, by omega⟩
    refine ⟨σ, ?_, Fs.rf⟩
    rw [J_X8_again_b30, if_pos ((gt60 (by omega)).mpr (by omega))]
    rfl
  | succ k ih =>
    intro i j s σ hi hj hd h
    obtain ⟨j, rfl⟩ : ∃ i, j = i + 1 := ⟨j - 1, by omega⟩
    have g8 := (h.2.2.2.1 x hx).1
    have h36 := h.sq36
    rw [J_X8_again_b30, if_neg (fun z => by have := (gt60 (by omega)).mp z; omega), show (1 : Int32) + nI x = nI (1 + x) from by rw [li_1, nI_add], if_pos ((inb_nI (by omega)).mpr (by omega)), nI_clamp (by omega), h.gr hx, agaK]
    by_cases e : sG s x = 0
    · obtain ⟨σ1, r1, r2, r3⟩ := jm_pass99 h (by omega)
      obtain ⟨σ2, t1, t2⟩ := ih (i + 1) j (passS Λ s) σ1 (by omega) (by omega) (by rw [passS_D]; omega) r2
      refine ⟨σ2, ?_, r3.tr t2⟩
      rw [if_pos (show nI (sG s x) ≤ 0 from by rw [e]; decide), r1, bd2_s, show nI i + (1 : Int32) = nI (i + 1) from by rw [li_1, nI_add], t1, if_pos e]
    · refine ⟨σ, ?_, Fs.rf⟩
      rw [if_neg (show ¬ nI (sG s x) ≤ 0 from by rw [li_0, nI_leI (by omega) (by omega)]; omega), if_neg e]
/-- the spare meadow is made as it is now -/
theorem jc_spare (h1 : PsiL σ Λ) (h2 : PsiN D σ Λ s) : ∃ σ1, J_X2_copyFrom 19 14 σ = some ((), σ1) ∧ CC σ1 19 Λ s ∧ Fr (fun a => 19 ≤ a ∧ a ≤ 23) σ σ1 := by
  obtain ⟨σ1, r1, r2, r3⟩ := jc_copy (c := 19) (d := 14) h2.1 (by omega)
  exact ⟨σ1, r1, ⟨LC.fr h1.1 (r3 1 (by omega)) (r3 2 (by omega)) (r3 3 (by omega)), r2, h1.2.2, h2.2.2.1⟩, r3⟩
theorem spare_wk {σ' : Sg} (f : Fr (fun a => 19 ≤ a ∧ a ≤ 23) σ σ') : Fs Wk σ σ' := f.fs fun a j z => Or.inl z
theorem cl_again (h : Psi D σ) (hD : D < 2 ^ 20) (a : Int32) : ∃ r σ1 σ2, J_X7_again a σ = some (r, σ1) ∧ J_X8_again a σ1 = some (r, σ2) ∧ Psi D σ2 := by
  have h0 := h
  obtain ⟨Λ, s, n, o, P, T, q, K, t, h1, h2, -, -, -⟩ := h
  have hΛ := h1.2.2
  have q1 := hΛ.sq
  have hc := h2.cc h1
  have hd := h2.2.2.2
  rcases i_cases a (show lSq Λ < 2 ^ 31 by omega) with ⟨x, hx, rfl⟩ | ha
  · have m9' := hΛ.2.2.2.2.2.2.1 x hx
    have g8 := (h2.2.2.1.1 x hx).1
    by_cases m9 : lM Λ x = 9
    · refine ⟨-2, σ, σ, ?_, ?_, h0⟩
      · unfold J_X7_again
        rw [jl_hasSquare h1.1.1 q1.2.1 hx, bd1_s, if_neg n10, jc_grassOn hc hx, bd1_s, if_pos m9, if_pos (show nI 9 = (9 : Int32) from rfl)]
      · unfold J_X8_again
        rw [jm_isSquare h1.2.1.1 q1.2.1 hx, bd1_s, if_neg n10, if_pos ((inb_nI (by omega)).mpr (by omega)), nI_clamp (by omega), h1.2.1.2.2.2.2.2.2.1 x hx, if_pos (neq li_9 m9)]
    · obtain ⟨σ1, r1, r2, r3⟩ := jc_spare h1 h2
      obtain ⟨σ2, t1, t2⟩ := jc_againLoop hx m9 61 0 FU s σ1 (by omega) (by rw [FU_eq]; omega) (by omega) r2
      have f2 := spare_wk (r3.tr t2)
      have g1 := h1.fr f2
      have g2 := h2.fr hΛ f2
      obtain ⟨σ3, y1, y2, y3⟩ := g2.as g1
      obtain ⟨σ4, x1, x2⟩ := jm_againLoop hx 61 0 FU s σ3 (by omega) (by rw [FU_eq]; omega) (by omega) y2
      refine ⟨agaK Λ x 61 0 s, σ2, σ4, ?_, ?_, h0.fr (f2.tr (y3.wk.tr x2.wk))⟩
      · unfold J_X7_again
        rw [jl_hasSquare h1.1.1 q1.2.1 hx, bd1_s, if_neg n10, jc_grassOn hc hx, bd1_s, if_neg m9, if_neg (nne li_9 (by omega) (by omega) (by omega)), r1, bd2_s]
        exact t1
      · unfold J_X8_again
        rw [jm_isSquare g1.2.1.1 q1.2.1 hx, bd1_s, if_neg n10, if_pos ((inb_nI (by omega)).mpr (by omega)), nI_clamp (by omega), g1.2.1.2.2.2.2.2.2.1 x hx, if_neg (nne li_9 (by omega) (by omega) m9), y1, bd2_s]
        exact x1
  · refine ⟨-1, σ, σ, ?_, ?_, h0⟩
    · unfold J_X7_again
      rw [jl_hasSquare0 h1.1.1 ha, bd1_s, if_pos z00]
    · unfold J_X8_again
      rw [jm_isSquare0 h1.2.1.1 q1.1 q1.2.1 ha, bd1_s, if_pos z00]
theorem jc_starLoop {b : Nat} (hb : b < lNb Λ) : ∀ (k i j : Nat) (s : ST) (σ : Sg), i + k = 61 → k < j → sD s + k < 2 ^ 28 → CC σ 19 Λ s → ∃ σ', J_X7_starves_b40 j (nI b) (nI i) σ = some (strK Λ b k i s, σ') ∧ Fr (fun a => 19 ≤ a ∧ a ≤ 23) σ σ' := by
  intro k
  induction k with
  | zero =>
    intro i j s σ hi hj hd h
    obtain ⟨j, rfl⟩ : ∃ i, j = i + 1 := ⟨j - 1, by omega⟩
    refine ⟨σ, ?_, Fr.rf⟩
    rw [J_X7_starves_b40, if_pos ((gt60 (by omega)).mpr (by omega))]
    rfl
  | succ k ih =>
    intro i j s σ hi hj hd h
    obtain ⟨j, rfl⟩ : ∃ i, j = i + 1 := ⟨j - 1, by omega⟩
    obtain ⟨σ1, r1, r2, r3⟩ := jc_pass h (by decide) (by omega)
    rw [J_X7_starves_b40, if_neg (fun z => by have := (gt60 (by omega)).mp z; omega), r1, bd2_s, jc_isOff r2 hb, bd1_s, strK]
    by_cases e : sP (passS Λ s) b = 36
    · refine ⟨σ1, ?_, r3.mono fun a z => z⟩
      rw [if_pos e, if_neg n10, if_pos e]
    · obtain ⟨σ2, t1, t2⟩ := ih (i + 1) j (passS Λ s) σ1 (by omega) (by omega) (by rw [passS_D]; omega) r2
      refine ⟨σ2, ?_, Fr.tr (r3.mono fun a z => z) t2⟩
      rw [if_neg e, if_pos z00, show nI i + (1 : Int32) = nI (i + 1) from by rw [li_1, nI_add], t1, if_neg e]
theorem jm_starLoop {b : Nat} (hb : b < lNb Λ) : ∀ (k i j : Nat) (s : ST) (σ : Sg), i + k = 61 → k < j → sD s + k < 2 ^ 28 → MS σ Λ s → ∃ σ', J_X8_starves_b33 j (nI b) (nI i) σ = some (strK Λ b k i s, σ') ∧ Fs Wt σ σ' := by
  intro k
  induction k with
  | zero =>
    intro i j s σ hi hj hd h
    obtain ⟨j, rfl⟩ : ∃ i, j = i + 1 := ⟨j - 1, by omega⟩
    refine ⟨σ, ?_, Fs.rf⟩
    rw [J_X8_starves_b33, if_pos ((gt60 (by omega)).mpr (by omega))]
    rfl
  | succ k ih =>
    intro i j s σ hi hj hd h
    obtain ⟨j, rfl⟩ : ∃ i, j = i + 1 := ⟨j - 1, by omega⟩
    obtain ⟨σ1, r1, r2, r3⟩ := jm_pass99 h (by omega)
    have h8 := h.nb8
    have p36 := SOK.p36 r2.2.2.1 r2.2.2.2 hb
    rw [J_X8_starves_b33, if_neg (fun z => by have := (gt60 (by omega)).mp z; omega), r1, bd2_s, show (37 : Int32) + nI b = nI (37 + b) from by rw [li_37, nI_add], if_pos ((inb_nI (by omega)).mpr (by omega)), nI_clamp (n := 37 + b) (by omega), r2.pl hb, strK]
    by_cases e : sP (passS Λ s) b = 36
    · refine ⟨σ1, ?_, r3⟩
      rw [if_pos (neq li_36 e), if_pos e]
    · obtain ⟨σ2, t1, t2⟩ := ih (i + 1) j (passS Λ s) σ1 (by omega) (by omega) (by rw [passS_D]; omega) r2
      refine ⟨σ2, ?_, r3.tr t2⟩
      rw [if_neg (nne li_36 (by omega) (by omega) e), show nI i + (1 : Int32) = nI (i + 1) from by rw [li_1, nI_add], t1, if_neg e]
theorem cl_starves (h : Psi D σ) (hD : D < 2 ^ 20) (a : Int32) : ∃ r σ1 σ2, J_X7_starves a σ = some (r, σ1) ∧ J_X8_starves a σ1 = some (r, σ2) ∧ Psi D σ2 := by
  have h0 := h
  obtain ⟨Λ, s, n, o, P, T, q, K, t, h1, h2, -, -, -⟩ := h
  have hΛ := h1.2.2
  have n8 := hΛ.2.2.1
  have hc := h2.cc h1
  have hd := h2.2.2.2
  rcases i_cases a (show lNb Λ < 2 ^ 31 by omega) with ⟨b, hb, rfl⟩ | ha
  · have p36 := SOK.p36 hΛ h2.2.2.1 hb
    have c0 : J_X1_hasBeast 1 (nI b) σ = some 1 := jl_hasBeast h1.1.2.2.1 n8.2 hb
    by_cases e : sP s b = 36
    · have hp := h2.2.1.2.2.1 b hb
      rw [Nat.zero_add] at hp
      refine ⟨-2, σ, σ, ?_, ?_, h0⟩
      · unfold J_X7_starves
        rw [c0, bd1_s, if_neg n10, jc_isOff hc hb, bd1_s, if_pos e, if_neg n10]
      · unfold J_X8_starves
        rw [jm_isBeast h1.2.1.2.2.1 n8.2 hb, bd1_s, if_neg n10, show (37 : Int32) + nI b = nI (37 + b) from by rw [li_37, nI_add], if_pos ((inb_nI (by omega)).mpr (by omega)), nI_clamp (by omega), hp, if_pos (neq li_36 e)]
    · obtain ⟨σ1, r1, r2, r3⟩ := jc_spare h1 h2
      obtain ⟨σ2, t1, t2⟩ := jc_starLoop hb 60 1 FU s σ1 (by omega) (by rw [FU_eq]; omega) (by omega) r2
      have f2 := spare_wk (r3.tr t2)
      have g1 := h1.fr f2
      have g2 := h2.fr hΛ f2
      have hp := g2.2.1.2.2.1 b hb
      rw [Nat.zero_add] at hp
      obtain ⟨σ3, y1, y2, y3⟩ := g2.as g1
      obtain ⟨σ4, x1, x2⟩ := jm_starLoop hb 60 1 FU s σ3 (by omega) (by rw [FU_eq]; omega) (by omega) y2
      refine ⟨strK Λ b 60 1 s, σ2, σ4, ?_, ?_, h0.fr (f2.tr (y3.wk.tr x2.wk))⟩
      · unfold J_X7_starves
        rw [c0, bd1_s, if_neg n10, jc_isOff hc hb, bd1_s, if_neg e, if_pos z00, r1, bd2_s]
        exact t1
      · unfold J_X8_starves
        rw [jm_isBeast g1.2.1.2.2.1 n8.2 hb, bd1_s, if_neg n10, show (37 : Int32) + nI b = nI (37 + b) from by rw [li_37, nI_add], if_pos ((inb_nI (by omega)).mpr (by omega)), nI_clamp (by omega), hp, if_neg (nne li_36 (by omega) (by omega) e), y1, bd2_s]
        exact x1
  · refine ⟨-1, σ, σ, ?_, ?_, h0⟩
    · unfold J_X7_starves
      rw [jl_hasBeast0 h1.1.2.2.1 ha, bd1_s, if_pos z00]
    · unfold J_X8_starves
      rw [jm_isBeast0 h1.2.1.2.2.1 n8.1 n8.2 ha, bd1_s, if_pos z00]
end AGAIN
