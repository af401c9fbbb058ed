/-! calls: square, beast, goes, takes -/
theorem nm1 : ¬ (0 : Int32) ≤ -1 := by decide
theorem nm2 : ¬ (0 : Int32) ≤ -2 := by decide
theorem nm4 : ¬ (0 : Int32) ≤ plI 36 := by decide
section CALL1
variable {σ : Sg} {D : Nat} {Λ : LT} {s : ST}
theorem PsiN.cc (h : PsiN D σ Λ s) (hL : PsiL σ Λ) : CC σ 14 Λ s := ⟨hL.1, h.1, hL.2.2, h.2.2.1⟩
theorem PsiN.as (h : PsiN D σ Λ s) (hL : PsiL σ Λ) : ∃ σ', J_X8_asItIs σ = some ((), σ') ∧ MS σ' Λ s ∧ Fs Wt σ σ' := jm_asItIs hL.2.1 hL.2.2 h.2.2.1 h.2.1
theorem cl_square (h : Psi D σ) (a b : Int32) : ∃ r σ', J_X7_square a b σ = some r ∧ J_X8_square a b σ = some (r, σ') ∧ Psi D σ' := by
  have h0 := h
  obtain ⟨Λ, s, n, o, P, T, q, K, t, h1, h2, -, -, -⟩ := h
  have hΛ := h1.2.2
  have q1 := hΛ.sq
  have hc := h2.cc h1
  unfold J_X7_square J_X8_square
  rcases i_cases a (show lSq Λ < 2 ^ 31 by omega) with ⟨x, hx, rfl⟩ | ha
  · rw [jl_hasSquare h1.1.1 q1.2.1 hx, bd1_s, if_neg n10, jm_isSquare h1.2.1.1 q1.2.1 hx, bd1_s, if_neg n10]
    rcases i_cases b (show 2 < 2 ^ 31 by decide) with ⟨w, hw, rfl⟩ | hb
    · have ww := what1 (show w ≤ 1 by omega)
      rw [if_neg ww.1, if_pos ww.2, in01 (by omega), bd1_s, if_neg n10]
      obtain ⟨σ', r1, r2, r3⟩ := h2.as h1
      have h2' := (h2.fr hΛ r3.wk).2.1
      rw [r1, bd2_s]
      by_cases e : w = 0
      · rw [if_pos (neq li_0 e), if_neg (nne li_1 (by omega) (by omega) (show ¬ w = 1 by omega)), jc_grassOn hc hx, bd1_s, if_pos (show inb (nI x) 36 = true from (inb_nI (by omega)).mpr (by omega)), nI_clamp (n := x) (by omega), r2.m hx, show (1 : Int32) + nI x = nI (1 + x) from by rw [li_1, nI_add], nI_clamp (n := 1 + x) (by omega)]
        by_cases m9 : lM Λ x = 9
        · rw [if_pos m9, if_pos (neq li_9 m9)]
          exact ⟨_, _, rfl, rfl, h0.fr r3.wk⟩
        · have m9' := hΛ.2.2.2.2.2.2.1 x hx
          have g := h2'.2.1 x hx
          rw [Nat.zero_add] at g
          rw [if_neg m9, if_neg (nne li_9 (by omega) (by omega) m9), if_pos (show inb (nI (1 + x)) 54 = true from (inb_nI (by omega)).mpr (by omega)), g]
          exact ⟨_, _, rfl, rfl, h0.fr r3.wk⟩
      · rw [if_neg (nne li_0 (by omega) (by omega) e), if_pos (neq li_1 (show w = 1 by omega)), jc_occ hc (by omega), bd1_s, jm_onIt r2 (by omega), bd1_s]
        exact ⟨_, _, rfl, rfl, h0.fr r3.wk⟩
    · rw [in01_0 hb, bd1_s, if_pos z00]
      rcases hb with z | z
      · rw [if_pos z]; exact ⟨_, _, rfl, rfl, h0⟩
      · rw [if_neg (what0 z).1, if_neg (what0 z).2]
        exact ⟨_, _, rfl, rfl, h0⟩
  · rw [jl_hasSquare0 h1.1.1 ha, bd1_s, if_pos z00, jm_isSquare0 h1.2.1.1 q1.1 q1.2.1 ha, bd1_s, if_pos z00]
    exact ⟨_, _, rfl, rfl, h0⟩
theorem cl_beast (h : Psi D σ) (a b : Int32) : ∃ r σ', J_X7_beast a b σ = some r ∧ J_X8_beast a b σ = some (r, σ') ∧ Psi D σ' := by
  have h0 := h
  obtain ⟨Λ, s, n, o, P, T, q, K, t, h1, h2, -, -, -⟩ := h
  have hΛ := h1.2.2
  have q1 := hΛ.sq
  have n8 := hΛ.2.2.1
  have hc := h2.cc h1
  unfold J_X7_beast J_X8_beast
  rcases i_cases a (show lNb Λ < 2 ^ 31 by omega) with ⟨x, hx, rfl⟩ | ha
  · rw [jl_hasBeast h1.1.2.2.1 n8.2 hx, bd1_s, if_neg n10, jm_isBeast h1.2.1.2.2.1 n8.2 hx, bd1_s, if_neg n10]
    obtain ⟨σ', r1, r2, r3⟩ := h2.as h1
    have h2' := (h2.fr hΛ r3.wk).2.1
    have p36 := SOK.p36 hΛ h2.2.2.1 hx
    have hp := h2'.2.2.1 x hx
    have hh := h2'.2.2.2.1 x hx
    rw [Nat.zero_add] at hp hh
    rw [r1, bd2_s]
    by_cases e0 : b = 0
    · rw [if_pos e0, if_pos e0, jc_kindOf hc hx, bd1_s, jm_kindOf r2 hx, bd1_s]
      exact ⟨_, _, rfl, rfl, h0.fr r3.wk⟩
    · rw [if_neg e0, if_neg e0]
      by_cases e1 : b = 1
      · rw [if_pos e1, if_pos e1, show J_X1_villageOf 1 (nI x) σ = some (nI (lVl Λ x)) from jc_villageOf hc hx, bd1_s, if_pos (show inb (nI x) 8 = true from (inb_nI (by omega)).mpr (by omega)), nI_clamp (by omega), r2.vl hx]
        exact ⟨_, _, rfl, rfl, h0.fr r3.wk⟩
      · rw [if_neg e1, if_neg e1]
        by_cases e2 : b = 2
        · rw [if_pos e2, if_pos e2, jc_placeOf hc hx, bd1_s, show (37 : Int32) + nI x = nI (37 + x) from by rw [li_37, nI_add], if_pos (show inb (nI (37 + x)) 54 = true from (inb_nI (by omega)).mpr (by omega)), nI_clamp (by omega), hp]
          unfold J_X8_orNone
          by_cases e : sP s x = 36
          · rw [if_pos (neq li_36 e), bd1_s, e]
            exact ⟨_, _, rfl, rfl, h0.fr r3.wk⟩
          · rw [if_neg (nne li_36 (by omega) (by omega) e), bd1_s, plI_of e]
            exact ⟨_, _, rfl, rfl, h0.fr r3.wk⟩
        · rw [if_neg e2, if_neg e2]
          by_cases e3 : b = 3
          · rw [if_pos e3, if_pos e3, jc_hungerOf hc hx, bd1_s, show (45 : Int32) + nI x = nI (45 + x) from by rw [li_45, nI_add], if_pos (show inb (nI (45 + x)) 54 = true from (inb_nI (by omega)).mpr (by omega)), nI_clamp (by omega), hh]
            exact ⟨_, _, rfl, rfl, h0.fr r3.wk⟩
          · rw [if_neg e3, if_neg e3]
            exact ⟨_, _, rfl, rfl, h0.fr r3.wk⟩
  · rw [jl_hasBeast0 h1.1.2.2.1 ha, bd1_s, if_pos z00, jm_isBeast0 h1.2.1.2.2.1 n8.1 n8.2 ha, bd1_s, if_pos z00]
    exact ⟨_, _, rfl, rfl, h0⟩
/-- the way is told, the beast stays: what both sides then do -/
theorem jm_looksAt (h1 : PsiL σ Λ) (h2 : PsiN D σ Λ s) {x w : Nat} (hx : x < lNb Λ) (hw : w < 4) : (sP s x = 36 → J_X8_looksAt (nI x) (nI w) σ = some (-2, σ)) ∧ (sP s x ≠ 36 → ∃ σ', J_X8_looksAt (nI x) (nI w) σ = some (0, σ') ∧ MS σ' Λ s ∧ Fs Wt σ σ') := by
  have hΛ := h1.2.2
  have n8 := hΛ.2.2.1
  have p36 := SOK.p36 hΛ h2.2.2.1 hx
  have hp := h2.2.1.2.2.1 x hx
  rw [Nat.zero_add] at hp
  unfold J_X8_looksAt
  rw [jm_isBeast h1.2.1.2.2.1 n8.2 hx, bd1_s, if_neg n10, in03 (by omega), bd1_s, if_neg n10, show (37 : Int32) + nI x = nI (37 + x) from by rw [li_37, nI_add], if_pos (show inb (nI (37 + x)) 54 = true from (inb_nI (by omega)).mpr (by omega)), nI_clamp (by omega), hp]
  refine ⟨fun e => by rw [if_pos (neq li_36 e)], fun e => ?_⟩
  obtain ⟨σ', r1, r2, r3⟩ := h2.as h1
  refine ⟨σ', ?_, r2, r3⟩
  rw [if_neg (nne li_36 (by omega) (by omega) e), r1, bd2_s]
theorem cl_goes (h : Psi D σ) (hD : D < 2 ^ 20) (a b : Int32) : ∃ r σ', J_X7_goes a b σ = some r ∧ J_X8_goes a b σ = some (r, σ') ∧ Psi D σ' := by
  have h0 := h
  obtain ⟨Λ, s, n, o, P, T, q, K, t, h1, h2, -, -, -⟩ := h
  have hΛ := h1.2.2
  have n8 := hΛ.2.2.1
  have hc := h2.cc h1
  have hd := h2.2.2.2
  unfold J_X7_goes J_X8_goes
  rcases i_cases a (show lNb Λ < 2 ^ 31 by omega) with ⟨x, hx, rfl⟩ | ha
  · rw [jl_hasBeast h1.1.2.2.1 n8.2 hx, bd1_s, if_neg n10]
    rcases i_cases b (show 4 < 2 ^ 31 by decide) with ⟨w, hw, rfl⟩ | hb
    · rw [j7_isWay hw, bd1_s, if_neg n10, jc_isOff hc hx, bd1_s]
      obtain ⟨l1, l2⟩ := jm_looksAt h1 h2 hx hw
      by_cases e : sP s x = 36
      · rw [if_pos e, if_neg n10, l1 e, bd2_s, if_neg nm2]
        exact ⟨_, _, rfl, rfl, h0⟩
      · obtain ⟨σ', r1, r2, r3⟩ := l2 e
        rw [if_neg e, if_pos z00, r1, bd2_s, if_pos (show (0 : Int32) ≤ 0 by decide), jc_snowing hc (by omega), bd1_s, jc_reach hc hx hw, bd1_s, ← bI_t, jm_comesTo r2 (by omega) hx e hw true, bd2_s, bI_comm]
        exact ⟨_, _, rfl, rfl, h0.fr (r3.wk.tr (Fs.up (P := Wk) Fs.rf (Or.inr (Or.inr (Or.inr (Or.inl ⟨rfl, by decide⟩))))))⟩
    · rw [j7_isWay0 hb, bd1_s, if_pos z00]
      have e : J_X8_looksAt (nI x) b σ = some (-1, σ) := by
        unfold J_X8_looksAt
        rw [jm_isBeast h1.2.1.2.2.1 n8.2 hx, bd1_s, if_neg n10, in03_0 hb, bd1_s, if_pos z00]
      rw [e, bd2_s, if_neg nm1]
      exact ⟨_, _, rfl, rfl, h0⟩
  · have e : J_X8_looksAt a b σ = some (-1, σ) := by
      unfold J_X8_looksAt
      rw [jm_isBeast0 h1.2.1.2.2.1 n8.1 n8.2 ha, bd1_s, if_pos z00]
    rw [jl_hasBeast0 h1.1.2.2.1 ha, bd1_s, if_pos z00, e, bd2_s, if_neg nm1]
    exact ⟨_, _, rfl, rfl, h0⟩
theorem cl_takes (h : Psi D σ) (hD : D < 2 ^ 20) (a b : Int32) : ∃ r σ', J_X7_takes a b σ = some r ∧ J_X8_takes a b σ = some (r, σ') ∧ Psi D σ' := by
  have h0 := h
  obtain ⟨Λ, s, n, o, P, T, q, K, t, h1, h2, -, -, -⟩ := h
  have hΛ := h1.2.2
  have n8 := hΛ.2.2.1
  have q1 := hΛ.sq
  have hc := h2.cc h1
  have hd := h2.2.2.2
  unfold J_X7_takes J_X8_takes
  rcases i_cases a (show lNb Λ < 2 ^ 31 by omega) with ⟨x, hx, rfl⟩ | ha
  · rw [jl_hasBeast h1.1.2.2.1 n8.2 hx, bd1_s, if_neg n10]
    rcases i_cases b (show 4 < 2 ^ 31 by decide) with ⟨w, hw, rfl⟩ | hb
    · rw [j7_isWay hw, bd1_s, if_neg n10, jc_isOff hc hx, bd1_s]
      obtain ⟨l1, l2⟩ := jm_looksAt h1 h2 hx hw
      by_cases e : sP s x = 36
      · rw [if_pos e, if_neg n10, l1 e, bd2_s, if_neg nm2]
        exact ⟨_, _, rfl, rfl, h0⟩
      · obtain ⟨σ', r1, r2, r3⟩ := l2 e
        rw [if_neg e, if_pos z00, r1, bd2_s, if_pos (show (0 : Int32) ≤ 0 by decide), jc_snowing hc (by omega), bd1_s, jc_reach hc hx hw, bd1_s, ← bI_t, jm_comesTo r2 (by omega) hx e hw true, bd2_s, bI_comm, up_s]
        have fin := h0.fr (r3.wk.tr (Fs.up (P := Wk) (c := 141) (k := 32) (v := takT Λ s x w (mtN Λ s x true)) Fs.rf (Or.inr (Or.inr (Or.inr (Or.inl ⟨rfl, by decide⟩))))))
        rw [show (true && (decide (kdN Λ s x ≠ 2) && !snowN Λ s)) = mtN Λ s x true from rfl]
        have le := reachT_le hΛ h2.2.2.1 (b := x) (way := w) (mt := mtN Λ s x true) hx hw
        by_cases e2 : reachT Λ s x w (mtN Λ s x true) = 36
        · rw [e2, if_neg nm4, jc_occNeg nm4, bd1_s]
          exact ⟨_, _, rfl, rfl, fin⟩
        · obtain ⟨c1, c2, c3⟩ := reachT_come e2
          have tk : takT Λ s x w (mtN Λ s x true) = onI (onN Λ s (reachT Λ s x w (mtN Λ s x true))) := by
            unfold takT tkI
            rw [if_neg c2, ← c3, if_neg e2]
          rw [plI_of e2, if_pos (nI_ge0 (by omega)), jc_occ hc (by omega), bd1_s, ← tk]
          exact ⟨_, _, rfl, rfl, fin⟩
    · rw [j7_isWay0 hb, bd1_s, if_pos z00]
      have e : J_X8_looksAt (nI x) b σ = some (-1, σ) := by
        unfold J_X8_looksAt
        rw [jm_isBeast h1.2.1.2.2.1 n8.2 hx, bd1_s, if_neg n10, in03_0 hb, bd1_s, if_pos z00]
      rw [e, bd2_s, if_neg nm1]
      exact ⟨_, _, rfl, rfl, h0⟩
  · have e : J_X8_looksAt a b σ = some (-1, σ) := by
      unfold J_X8_looksAt
      rw [jm_isBeast0 h1.2.1.2.2.1 n8.1 n8.2 ha, bd1_s, if_pos z00]
    rw [jl_hasBeast0 h1.1.2.2.1 ha, bd1_s, if_pos z00, e, bd2_s, if_neg nm1]
    exact ⟨_, _, rfl, rfl, h0⟩
end CALL1
