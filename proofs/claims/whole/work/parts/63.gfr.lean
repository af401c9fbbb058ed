/-! frames of the parts of the invariant -/
section GFR
variable {σ σ' : Sg} {Λ : LT} {s : ST} {D : Nat} {R : Nat → Nat → Prop}
theorem PsiL.gfr (h : PsiL σ Λ) (f : Fs R σ σ') (hR : ∀ a j, ((1 ≤ a ∧ a ≤ 3) ∨ (141 ≤ a ∧ a ≤ 145 ∧ (a = 141 → j ≤ 8))) → ¬ R a j) : PsiL σ' Λ :=
  ⟨h.1.frs f fun a j h1 h2 => hR a j (by omega), h.2.1.frs f fun a j h1 h2 h3 => hR a j (by omega), h.2.2⟩
theorem PsiN.gfr (h : PsiN D σ Λ s) (hΛ : LOK Λ) (f : Fs R σ σ') (hR : ∀ a j, ((14 ≤ a ∧ a ≤ 18) ∨ a = 146) → ¬ R a j) : PsiN D σ' Λ s :=
  ⟨h.1.frs f fun a j h1 h2 => hR a j (by omega), h.2.1.frs hΛ f fun j h1 h2 => hR _ j (by omega), h.2.2⟩
theorem PsiP.gfr {n o : Nat} {P : Nat → ST} {T : Nat → Nat} (h : PsiP D σ Λ n o P T) (hΛ : LOK Λ) (f : Fs R σ σ') (hR : ∀ a j, ((24 ≤ a ∧ a ≤ 67) ∨ (a = 141 ∧ j = 11) ∨ a = 147 ∨ a = 148) → ¬ R a j) : PsiP D σ' Λ n o P T := by
  obtain ⟨h1, h2, h3, h4, h5, h6⟩ := h
  refine ⟨h1, h2, ?_, ?_, ?_, fun i hi => ?_⟩
  · rw [f _ _ (hR _ _ (by omega))]; exact h3
  · rw [f _ _ (hR _ _ (by omega))]; exact h4
  · rw [f _ _ (hR _ _ (by omega))]; exact h5
  · obtain ⟨p1, p2, p3, p4, p5, p6, p7, p8⟩ := h6 i hi
    have hm : (o + i) % 8 < 8 := Nat.mod_lt _ (by decide)
    generalize (o + i) % 8 = w at hm p1 p6 ⊢
    have q1 := pm_lo 26 w
    have q2 := pm_hi 26 w
    refine ⟨p1.frs f fun a j h1 h2 => hR a j (by omega), p2.frs hΛ f fun j _ _ => hR _ _ (by omega), p3, p4, p5, ?_, ?_, p8⟩
    · rw [f _ _ (hR _ _ (by omega))]; exact p6
    · rw [f _ _ (hR _ _ (by omega))]; exact p7
theorem PsiK.gfr {q : Nat} {K : Nat → ST} (h : PsiK D σ Λ q K) (hΛ : LOK Λ) (f : Fs R σ σ') (hR : ∀ a j, ((a = 0 ∧ j = 8) ∨ (a = 141 ∧ j = 14) ∨ (69 ≤ a ∧ a ≤ 79) ∨ a = 149) → ¬ R a j) : PsiK D σ' Λ q K := by
  obtain ⟨h1, h2, h3, h4⟩ := h
  refine ⟨h1, ?_, ?_, fun i hi => ?_⟩
  · rw [f _ _ (hR _ _ (by omega))]; exact h2
  · rw [f _ _ (hR _ _ (by omega))]; exact h3
  · obtain ⟨p1, p2, p3, p4⟩ := h4 i hi
    have q1 := pm_lo 68 i
    have q3 : pm 68 i ≤ 75 := by unfold pm; split <;> omega
    exact ⟨p1.frs f fun a j _ _ => hR a j (by omega), p2.frs hΛ f fun j _ _ => hR _ _ (by omega), p3, p4⟩
theorem PsiT.gfr {t : Nat} (h : PsiT σ t) (f : Fs R σ σ') (hR : ∀ a j, ((a = 4 ∧ j = 3) ∨ (a = 141 ∧ j = 17) ∨ a = 5 ∨ a = 150) → ¬ R a j) : PsiT σ' t := by
  obtain ⟨h1, h2, h3, h4⟩ := h
  refine ⟨h1, ?_, ?_, fun i hi => ?_⟩
  · rw [f _ _ (hR _ _ (by omega))]; exact h2
  · rw [f _ _ (hR _ _ (by omega))]; exact h3
  · rw [f _ _ (hR _ _ (by omega)), f _ _ (hR _ _ (by omega))]; exact h4 i hi
end GFR
/-! calls: write, wipe, count -/
section CALL2
variable {σ : Sg} {D : Nat} {Λ : LT} {s : ST}
def Rw (a j : Nat) : Prop := a = 5 ∨ a = 150 ∨ (a = 4 ∧ j = 3) ∨ (a = 141 ∧ j = 17)
theorem Psi.text {σ' : Sg} {n o q t t' : Nat} {P K : Nat → ST} {T : Nat → Nat} (h1 : PsiL σ Λ) (h2 : PsiN D σ Λ s) (h3 : PsiP D σ Λ n o P T) (h4 : PsiK D σ Λ q K) (f : Fs Rw σ σ') (h5 : PsiT σ' t') : Psi D σ' := by
  have hR : ∀ a j, Rw a j → a = 5 ∨ a = 150 ∨ (a = 4 ∧ j = 3) ∨ (a = 141 ∧ j = 17) := fun _ _ z => z
  exact ⟨Λ, s, n, o, P, T, q, K, t', h1.gfr f fun a j z w => by have := hR _ _ w; omega, h2.gfr h1.2.2 f fun a j z w => by have := hR _ _ w; omega, h3.gfr h1.2.2 f fun a j z w => by have := hR _ _ w; omega, h4.gfr h1.2.2 f fun a j z w => by have := hR _ _ w; omega, h5⟩
theorem cl_write (h : Psi D σ) (a : Int32) : ∃ r σ1 σ2, J_X7_write a σ = some (r, σ1) ∧ J_X8_write a σ1 = some (r, σ2) ∧ Psi D σ2 := by
  have h0 := h
  obtain ⟨Λ, s, n, o, P, T, q, K, t, h1, h2, h3, h4, h5⟩ := h
  obtain ⟨t1, t2, t3, t4⟩ := h5
  unfold J_X7_write
  by_cases e1 : a < (32 : Int32)
  · rw [if_pos e1]
    refine ⟨_, _, σ, rfl, ?_, h0⟩
    unfold J_X8_write J_X8_in
    rw [if_pos e1, bd1_s, if_pos z00]
  · rw [if_neg e1]
    by_cases e2 : a ≤ (126 : Int32)
    · rw [if_pos e2]
      have hin : ∀ σ, J_X8_in a 32 126 σ = some 1 := fun σ => by
        unfold J_X8_in
        rw [if_neg e1, if_neg (Int32.not_lt.mpr e2)]
      have ex : ∃ k, 32 ≤ k ∧ k ≤ 126 ∧ a = nI k := by
        rcases i_cases a (show 127 < 2 ^ 31 by decide) with ⟨k, hk, rfl⟩ | z | z
        · refine ⟨k, ?_, by omega, rfl⟩
          have e3 : ¬ nI k < nI 32 := e1
          rw [nI_ltI (by omega) (by omega)] at e3
          omega
        · exact absurd (lt0_lt (n := 32) (by decide) z) e1
        · exact absurd e2 (Int32.not_le.mpr (ge_lt (m := 126) (n := 127) (by decide) (by decide) z))
      obtain ⟨k, k1, k2, rfl⟩ := ex
      unfold J_X5_add
      rw [t2, if_neg (nI_nlt0 (by omega))]
      by_cases e3 : t = 200
      · rw [if_neg (show ¬ nI t < (200 : Int32) from by rw [li_200, nI_ltI (by omega) (by omega)]; omega), bd2_s, if_pos z00]
        refine ⟨_, _, σ, rfl, ?_, h0⟩
        unfold J_X8_write
        rw [hin, bd1_s, if_neg n10, t3, if_pos (neq li_200 e3)]
      · have i200 : inb (nI t) 200 = true := (inb_nI (by omega)).mpr (by omega)
        rw [if_pos (show nI t < (200 : Int32) from by rw [li_200, nI_ltI (by omega) (by omega)]; omega), if_pos i200, bd2_s, if_neg n10, up_s, up_n (by decide), t2, nI_clamp (by omega), show nI t + (1 : Int32) = nI (t + 1) from by rw [li_1, nI_add]]
        refine ⟨_, _, up (up (up (up σ 5 t (nI k)) 4 3 (nI (t + 1))) 150 t (nI k)) 141 17 (nI (t + 1)), rfl, ?_, ?_⟩
        · have u17 : (up (up σ 5 t (nI k)) 4 3 (nI (t + 1))) 141 17 = nI t := by rw [up_n (by decide), up_n (by decide)]; exact t3
          unfold J_X8_write
          rw [hin, bd1_s, if_neg n10, u17, if_neg (nne li_200 (by omega) (by omega) e3), if_pos i200, up_s, up_n (by decide), u17, nI_clamp (by omega), show nI t + (1 : Int32) = nI (t + 1) from by rw [li_1, nI_add]]
        · refine Psi.text h1 h2 h3 h4 (t' := t + 1) (t := t) (Fs.up (P := Rw) (Fs.up (P := Rw) (Fs.up (P := Rw) (Fs.up (P := Rw) Fs.rf (Or.inl rfl)) (Or.inr (Or.inr (Or.inl ⟨rfl, rfl⟩)))) (Or.inr (Or.inl rfl))) (Or.inr (Or.inr (Or.inr ⟨rfl, rfl⟩)))) ⟨by omega, ?_, ?_, fun i hi => ?_⟩
          · rw [up_n (by decide), up_n (by decide), up_s]
          · rw [up_s]
          · by_cases e : i = t
            · refine ⟨k, k1, k2, ?_, ?_⟩
              · rw [up_n (by decide), up_n (by decide), up_n (by decide), e, up_s]
              · rw [up_n (by decide), e, up_s]
            · obtain ⟨k', y1, y2, y3, y4⟩ := t4 i (by omega)
              refine ⟨k', y1, y2, ?_, ?_⟩
              · rw [up_n (by decide), up_n (by decide), up_n (by decide), up_i e]; exact y3
              · rw [up_n (by decide), up_i e, up_n (by decide), up_n (by decide)]; exact y4
    · rw [if_neg e2]
      refine ⟨_, _, σ, rfl, ?_, h0⟩
      unfold J_X8_write J_X8_in
      rw [if_neg e1, if_pos (Int32.not_le.mp e2), bd1_s, if_pos z00]
theorem cl_wipe (h : Psi D σ) : ∃ r σ1 σ2, J_X7_wipe σ = some (r, σ1) ∧ J_X8_wipe σ1 = some (r, σ2) ∧ Psi D σ2 := by
  obtain ⟨Λ, s, n, o, P, T, q, K, t, h1, h2, h3, h4, h5⟩ := h
  obtain ⟨t1, t2, t3, t4⟩ := h5
  refine ⟨nI t, up σ 4 3 0, up (up σ 4 3 0) 141 17 0, ?_, ?_, ?_⟩
  · unfold J_X7_wipe
    rw [t2]
  · unfold J_X8_wipe
    rw [up_n (by decide), t3]
  · refine Psi.text h1 h2 h3 h4 (t' := 0) (t := t) (Fs.up (P := Rw) (Fs.up (P := Rw) Fs.rf (Or.inr (Or.inr (Or.inl ⟨rfl, rfl⟩)))) (Or.inr (Or.inr (Or.inr ⟨rfl, rfl⟩)))) ⟨by omega, ?_, ?_, fun i hi => by omega⟩
    · rw [up_n (by decide), up_s]; rfl
    · rw [up_s]; rfl
theorem jm_allLoop (hΛ : LOK Λ) (hs : SOK Λ s) (hL : LM σ Λ) (h : MM σ 146 0 Λ s) : ∀ (k n j : Nat) (x : Int32), n + k = 37 → 37 < n + j → J_X8_count_b123 j x (nI n) σ = some (allK Λ s k n x, σ) := by
  have h36 := hΛ.sq.2.1
  intro k
  induction k with
  | zero =>
    intro b j x hb hj
    obtain ⟨j, rfl⟩ : ∃ i, j = i + 1 := ⟨j - 1, by omega⟩
    rw [J_X8_count_b123, hL.1, if_pos ((nI_leI (by omega) (by omega)).mpr (by omega))]
    rfl
  | succ k ih =>
    intro n j x hb hj
    obtain ⟨j, rfl⟩ : ∃ i, j = i + 1 := ⟨j - 1, by omega⟩
    have a1 : nI n + (1 : Int32) = nI (n + 1) := by rw [li_1, nI_add]
    by_cases hb' : n < lSq Λ
    · have g := h.2.1 n hb'
      rw [Nat.zero_add] at g
      rw [J_X8_count_b123, hL.1, if_neg (fun z => by have := (nI_leI (by omega) (by omega)).mp z; omega), show (1 : Int32) + nI n = nI (1 + n) from by rw [li_1, nI_add], if_pos ((inb_nI (by omega)).mpr (by omega)), nI_clamp (by omega), g, a1, allK, if_pos hb']
      by_cases m9 : lM Λ n = 9
      · rw [if_pos m9, (hs.1 n hb').2 m9, ← li_0, ad0]
        exact ih (n + 1) j x (by omega) (by omega)
      · rw [if_neg m9]
        exact ih (n + 1) j _ (by omega) (by omega)
    · rw [J_X8_count_b123, hL.1, if_pos ((nI_leI (by omega) (by omega)).mpr (by omega)), allK, if_neg hb']
theorem cl_count (h : Psi D σ) (a : Int32) : ∃ r σ', J_X7_count a σ = some r ∧ J_X8_count a σ = some (r, σ') ∧ Psi D σ' := by
  have h0 := h
  obtain ⟨Λ, s, n, o, P, T, q, K, t, h1, h2, h3, h4, h5⟩ := h
  have hΛ := h1.2.2
  have hc := h2.cc h1
  obtain ⟨σ', r1, r2, r3⟩ := h2.as h1
  have fin := h0.fr r3.wk
  have g1 := h1.fr r3.wk
  have g2 := h2.fr hΛ r3.wk
  have g3 := h3.fr hΛ r3.wk
  have g4 := h4.fr hΛ r3.wk
  have g5 := h5.fr r3.wk
  unfold J_X7_count J_X8_count
  rw [r1, bd2_s]
  by_cases e : a = 0
  · rw [if_pos e, if_pos e, h1.1.1, g1.2.1.1]; exact ⟨_, _, rfl, rfl, fin⟩
  rw [if_neg e, if_neg e]
  by_cases e : a = 1
  · rw [if_pos e, if_pos e, h1.1.2.1, g1.2.1.2.1]; exact ⟨_, _, rfl, rfl, fin⟩
  rw [if_neg e, if_neg e]
  by_cases e : a = 2
  · rw [if_pos e, if_pos e, h1.1.2.2.1, g1.2.1.2.2.1]; exact ⟨_, _, rfl, rfl, fin⟩
  rw [if_neg e, if_neg e]
  by_cases e : a = 3
  · rw [if_pos e, if_pos e, h2.1.1, g2.2.1.1]; exact ⟨_, _, rfl, rfl, fin⟩
  rw [if_neg e, if_neg e]
  by_cases e : a = 4
  · rw [if_pos e, if_pos e, show J_X2_staying 14 0 σ = some (nI (staN Λ s 0)) from jc_staying hc (by decide), show J_X8_onMeadow 0 σ' = some (nI (staN Λ s 0)) from jm_staying r2 (by decide), bd1_s, bd1_s]; exact ⟨_, _, rfl, rfl, fin⟩
  rw [if_neg e, if_neg e]
  by_cases e : a = 5
  · rw [if_pos e, if_pos e, show J_X2_staying 14 1 σ = some (nI (staN Λ s 1)) from jc_staying hc (by decide), show J_X8_onMeadow 1 σ' = some (nI (staN Λ s 1)) from jm_staying r2 (by decide), bd1_s, bd1_s]; exact ⟨_, _, rfl, rfl, fin⟩
  rw [if_neg e, if_neg e]
  by_cases e : a = 6
  · rw [if_pos e, if_pos e, jc_worth hc, jm_worth r2, bd1_s, bd1_s, Int32.add_comm]; exact ⟨_, _, rfl, rfl, fin⟩
  rw [if_neg e, if_neg e]
  by_cases e : a = 7
  · rw [if_pos e, if_pos e, jc_lost hc, jm_lost r2, bd1_s, bd1_s]; exact ⟨_, _, rfl, rfl, fin⟩
  rw [if_neg e, if_neg e]
  by_cases e : a = 8
  · have ee : J_X8_count_b123 FU 0 0 σ' = some (allI Λ s, σ') := jm_allLoop hΛ h2.2.2.1 g1.2.1 g2.2.1 37 0 FU 0 rfl (by rw [FU_eq]; omega)
    rw [if_pos e, if_pos e, jc_allGrass hc, bd1_s, ee]; exact ⟨_, _, rfl, rfl, fin⟩
  rw [if_neg e, if_neg e]
  by_cases e : a = 9
  · rw [if_pos e, if_pos e, h1.1.2.2.2.2.1, g1.2.1.2.2.2.2.1]; exact ⟨_, _, rfl, rfl, fin⟩
  rw [if_neg e, if_neg e]
  by_cases e : a = 10
  · rw [if_pos e, if_pos e, h3.2.2.1, g3.2.2.2.2.1]; exact ⟨_, _, rfl, rfl, fin⟩
  rw [if_neg e, if_neg e]
  by_cases e : a = 11
  · rw [if_pos e, if_pos e, h4.2.1, g4.2.2.1]; exact ⟨_, _, rfl, rfl, fin⟩
  rw [if_neg e, if_neg e]
  by_cases e : a = 12
  · rw [if_pos e, if_pos e, h5.2.1, g5.2.2.1]; exact ⟨_, _, rfl, rfl, fin⟩
  rw [if_neg e, if_neg e]
  exact ⟨_, _, rfl, rfl, fin⟩
end CALL2
