/-! calls: drive, rest -/
section CALL4
variable {σ : Sg} {D : Nat} {Λ : LT} {s : ST}
theorem adG {n o d : Nat} {P : Nat → ST} {T : Nat → Nat} (g : PgP D Λ n o P T) (h1 : SOK Λ s) (h2 : sD s ≤ D) (h3 : lostI Λ s = 0) (h4 : d < 100) : PgP D Λ (adN n) (adO n o) (adF n P s) (adF n T d) := by
  obtain ⟨g1, g2, g3⟩ := g
  unfold adN adO adF
  by_cases e : n < 8
  · rw [if_pos e, if_pos e, if_pos e, if_pos e]
    refine ⟨by omega, g2, fun i hi => ?_⟩
    show SOK Λ (if i = n then s else P i) ∧ sD (if i = n then s else P i) ≤ D ∧ lostI Λ (if i = n then s else P i) = 0 ∧ (if i = n then d else T i) < 100
    by_cases ei : i = n
    · rw [if_pos ei, if_pos ei]; exact ⟨h1, h2, h3, h4⟩
    · rw [if_neg ei, if_neg ei]; exact g3 i (by omega)
  · rw [if_neg e, if_neg e, if_neg e, if_neg e]
    refine ⟨by omega, Nat.mod_lt _ (by decide), fun i hi => ?_⟩
    show SOK Λ (if i = 7 then s else P (i + 1)) ∧ sD (if i = 7 then s else P (i + 1)) ≤ D ∧ lostI Λ (if i = 7 then s else P (i + 1)) = 0 ∧ (if i = 7 then d else T (i + 1)) < 100
    by_cases ei : i = 7
    · rw [if_pos ei, if_pos ei]; exact ⟨h1, h2, h3, h4⟩
    · rw [if_neg ei, if_neg ei]; exact g3 (i + 1) (by omega)
theorem PgP.le {n o D' : Nat} {P : Nat → ST} {T : Nat → Nat} (hD : D ≤ D') (g : PgP D Λ n o P T) : PgP D' Λ n o P T :=
  ⟨g.1, g.2.1, fun i hi => ⟨(g.2.2 i hi).1, Nat.le_trans (g.2.2 i hi).2.1 hD, (g.2.2 i hi).2.2⟩⟩
/-- a day is lived on both sides: what both systems then are -/
theorem psi_day {σ1 σ2 : Sg} {s' : ST} {n o q t d : Nat} {P K : Nat → ST} {T : Nat → Nat} (h1 : PsiL σ Λ) (h2 : PsiN D σ Λ s) (h3 : PsiP D σ Λ n o P T) (h4 : PsiK D σ Λ q K) (h5 : PsiT σ t) (hl : lostI Λ s = 0) (hd : d < 100) (hs' : SOK Λ s') (hD' : sD s' ≤ D + 1)
    (cP : PcP σ1 Λ (adN n) (adO n o) (adF n P s) (adF n T d)) (cN : MC σ1 14 Λ s') (cF : Fs (fun a _ => (14 ≤ a ∧ a ≤ 18) ∨ (24 ≤ a ∧ a ≤ 67)) σ σ1)
    (mP : PmP σ2 Λ (adN n) (adF n P s) (adF n T d)) (mN : MM σ2 146 0 Λ s') (mF : Fs Rd σ1 σ2) : Psi (D + 1) σ2 := by
  have hΛ := h1.2.2
  have g1 := (h1.gfr cF fun a j z w => by omega).gfr mF fun a j z w => by have := w.no; omega
  have g4 := (h4.gfr hΛ cF fun a j z w => by omega).gfr hΛ mF fun a j z w => by have := w.no; omega
  have g5 := (h5.gfr cF fun a j z w => by omega).gfr mF fun a j z w => by have := w.no; omega
  exact ⟨Λ, s', adN n, adO n o, adF n P s, adF n T d, q, K, t, g1, ⟨cN.frs mF fun a j z1 z2 w => by have := w.no; omega, mN, hs', hD'⟩, PsiP.of ((adG h3.g h2.2.2.1 h2.2.2.2 hl hd).le (by omega)) (cP.fr mF fun a j z1 z2 w => by have := w.no; omega) mP, g4.le (by omega), g5⟩
theorem cl_rest (h : Psi D σ) (hD : D < 2 ^ 20) : ∃ r σ1 σ2, J_X7_rest σ = some (r, σ1) ∧ J_X8_rest σ1 = some (r, σ2) ∧ Psi (D + 1) σ2 := by
  have h0 := h
  obtain ⟨Λ, s, n, o, P, T, q, K, t, h1, h2, h3, h4, h5⟩ := h
  have hΛ := h1.2.2
  have hc := h2.cc h1
  have hd := h2.2.2.2
  by_cases e : lostI Λ s = 0
  · obtain ⟨σ1, r1, r2, r3⟩ := jc_add h3.1 h3.2.1 h2.1 h3.c 99
    have hc1 : CC σ1 14 Λ s := ⟨h1.1.frs r3 fun a j z1 z2 w => by have := lnd_lt (c := 14) (by decide); omega, h2.1.frs r3 fun a j z1 z2 w => by omega, hΛ, h2.2.2.1⟩
    obtain ⟨σ2, t1, t2, t3⟩ := jc_pass hc1 (by decide) (by omega)
    have cF : Fs (fun a _ => (14 ≤ a ∧ a ≤ 18) ∨ (24 ≤ a ∧ a ≤ 67)) σ σ2 := (r3.mono fun a j z => Or.inr z).tr (t3.cells.mono fun a j z => Or.inl z)
    have g1 := h1.gfr cF fun a j z w => by omega
    have m2 := h3.m.fr hΛ h3.1 cF fun a j z w => by omega
    have n2 := h2.2.1.frs hΛ cF fun j z1 z2 w => by omega
    obtain ⟨σ3, y1, y2, y3⟩ := jm_asItIs g1.2.1 hΛ h2.2.2.1 n2
    have hw : ∀ a j, Wt a j → a = 157 ∨ (a = 141 ∧ j = 32) := fun _ _ z => z
    have m3 := m2.fr hΛ h3.1 y3 fun a j z w => by have := hw _ _ w; omega
    have n3 := n2.frs hΛ y3 fun j z1 z2 w => by have := hw _ _ w; omega
    obtain ⟨σ4, x1, x2, x3, x4⟩ := jm_does h3.1 m3 n3 y2 (by omega) (d := 99) (by decide) (Or.inl rfl)
    have lv : livS Λ s 99 = passS Λ s := rfl
    rw [lv] at x3
    refine ⟨nI (sD (passS Λ s)), σ2, σ4, ?_, ?_, psi_day h1 h2 h3 h4 h5 e (by decide) t2.2.2.2 (by rw [passS_D]; omega) (r2.fr t3.cells fun a j z1 z2 w => by omega) t2.2.1 cF x2 x3 ((y3.mono fun _ _ z => z.rd).tr x4)⟩
    · unfold J_X7_rest
      rw [jc_lost hc, bd1_s, if_pos e, show J_X3_add 14 99 σ = _ from r1, bd2_s, t1, bd2_s, t2.2.1.1]
    · unfold J_X8_rest
      rw [y1, bd2_s, jm_lost y2, bd1_s, if_pos e, show J_X8_does 99 σ3 = _ from x1, bd2_s, x3.1]
  · have g1 := h2.as h1
    obtain ⟨σ', r1, r2, r3⟩ := g1
    refine ⟨-2, σ, σ', ?_, ?_, (h0.fr r3.wk).le (by omega)⟩
    · unfold J_X7_rest
      rw [jc_lost hc, bd1_s, if_neg e]
    · unfold J_X8_rest
      rw [r1, bd2_s, jm_lost r2, bd1_s, if_neg e]
theorem cl_drive (h : Psi D σ) (hD : D < 2 ^ 20) (a b : Int32) : ∃ r σ1 σ2, J_X7_drive a b σ = some (r, σ1) ∧ J_X8_drive a b σ1 = some (r, σ2) ∧ Psi (D + 1) σ2 := by
  have h0 := h
  obtain ⟨Λ, s, n, o, P, T, q, K, t, h1, h2, h3, h4, h5⟩ := h
  have hΛ := h1.2.2
  have n8 := hΛ.2.2.1
  have hc := h2.cc h1
  have hd := h2.2.2.2
  rcases i_cases a (show lNb Λ < 2 ^ 31 by omega) with ⟨x, hx, rfl⟩ | ha
  · rcases i_cases b (show 4 < 2 ^ 31 by decide) with ⟨w, hw, rfl⟩ | hb
    · have ed : (10 * x + w) / 10 = x := by omega
      have em : (10 * x + w) % 10 = w := by omega
      have ei : (10 : Int32) * nI x + nI w = nI (10 * x + w) := by rw [li_10, nI_mul, nI_add]
      have ht : ∀ a j, Wt a j → a = 157 ∨ (a = 141 ∧ j = 32) := fun _ _ z => z
      have c0 : J_X1_hasBeast 1 (nI x) σ = some 1 := jl_hasBeast h1.1.2.2.1 n8.2 hx
      by_cases e : lostI Λ s = 0 ∧ drvN Λ s x w ≠ 36
      · obtain ⟨e1, e2⟩ := e
        obtain ⟨q1, q2, q3, q4, q5, q6, q7, q8, q9⟩ := drvN_ok hΛ h2.2.2.1 e2
        have h36 := hΛ.sq.2.1
        obtain ⟨σ1, r1, r2, r3⟩ := jc_add h3.1 h3.2.1 h2.1 h3.c (10 * x + w)
        have hc1 : CC σ1 14 Λ s := ⟨h1.1.frs r3 fun a j z1 z2 w => by have := lnd_lt (c := 14) (by decide); omega, h2.1.frs r3 fun a j z1 z2 w => by omega, hΛ, h2.2.2.1⟩
        obtain ⟨σ2, v1, v2, v3⟩ := jc_move hc1 (by decide) q1 q4 q8 q9
        obtain ⟨σ3, t1, t2, t3⟩ := jc_pass v2 (by decide) (show sD s < 2 ^ 29 by omega)
        have cF : Fs (fun a _ => (14 ≤ a ∧ a ≤ 18) ∨ (24 ≤ a ∧ a ≤ 67)) σ σ3 := (r3.mono fun a j z => Or.inr z).tr ((v3.fs fun a j z => by omega).tr (t3.cells.mono fun a j z => Or.inl z))
        have g1 := h1.gfr cF fun a j z w => by omega
        have m2 := h3.m.fr hΛ h3.1 cF fun a j z w => by omega
        have n2 := h2.2.1.frs hΛ cF fun j z1 z2 w => by omega
        obtain ⟨σ4, y1, y2, y3⟩ := jm_asItIs g1.2.1 hΛ h2.2.2.1 n2
        obtain ⟨σ5, z1, z2, z3⟩ := jm_canDrive y2 (by omega) (d := 10 * x + w) (by omega)
        have h6 : MS (up σ5 141 32 (takT Λ s x w (mtN Λ s x true))) Λ s := z2.up32
        have f6 : Fs Wt σ3 (up σ5 141 32 (takT Λ s x w (mtN Λ s x true))) := Fs.up (P := Wt) (y3.tr (z3.mono fun _ _ z => z.wt)) (Or.inr ⟨rfl, rfl⟩)
        have cm : J_X8_comesTo (nI x) (nI w) 1 σ5 = some (plI (reachT Λ s x w (mtN Λ s x true)), up σ5 141 32 (takT Λ s x w (mtN Λ s x true))) := jm_comesTo z2 (by omega) q1 q4 q2 true
        generalize up σ5 141 32 (takT Λ s x w (mtN Λ s x true)) = σ6 at h6 f6 cm
        have m3 := m2.fr hΛ h3.1 f6 fun a j z w => by have := ht _ _ w; omega
        have n3 := n2.frs hΛ f6 fun j z1 z2 w => by have := ht _ _ w; omega
        obtain ⟨σ7, x1, x2, x3, x4⟩ := jm_does h3.1 m3 n3 h6 (by omega) (d := 10 * x + w) (by omega) (Or.inr (by rw [ed, em]; exact e2))
        have lv : livS Λ s (10 * x + w) = passS Λ (movS Λ s x (drvN Λ s x w)) := by
          unfold livS
          rw [if_neg (by omega), ed, em, if_neg e2]
        rw [lv] at x3
        refine ⟨plI (drvN Λ s x w), σ3, σ7, ?_, ?_, psi_day h1 h2 h3 h4 h5 e1 (d := 10 * x + w) (by omega) t2.2.2.2 (by rw [passS_D]; show sD s + 1 ≤ D + 1; omega) ((r2.fr (v3.fs (Q := fun a _ => a = 16 ∨ a = 17) fun a j z => z) fun a j z1 z2 w => by omega).fr t3.cells fun a j z1 z2 w => by omega) t2.2.1 cF x2 x3 ((f6.mono fun _ _ z => z.rd).tr x4)⟩
        · unfold J_X7_drive
          rw [c0, bd1_s, if_neg n10, j7_isWay hw, bd1_s, if_neg n10, jc_driven hc (by omega) (by omega) (by omega), bd1_s, plI_of e2, if_neg (nI_nem4 (by omega)), jc_lost hc, bd1_s, if_pos e1, ei, r1, bd2_s, v1, bd2_s, t1, bd2_s]
        · have cn : canN Λ s (10 * x + w) = true := by
            unfold canN
            rw [ed, em]
            simp [e1, e2]
          unfold J_X8_drive
          rw [jm_isBeast g1.2.1.2.2.1 n8.2 hx, bd1_s, if_neg n10, in03 (by omega), bd1_s, if_neg n10, y1, bd2_s, ei, z1, bd2_s, cn, if_neg (show ¬ bI true = 0 from by decide), cm, bd2_s, x1, bd2_s, q6]
      · obtain ⟨σ', y1, y2, y3⟩ := h2.as h1
        obtain ⟨σ5, z1, z2, z3⟩ := jm_canDrive y2 (by omega) (d := 10 * x + w) (by omega)
        refine ⟨-2, σ, σ5, ?_, ?_, (h0.fr ((y3.tr (z3.mono fun _ _ z => z.wt)).wk)).le (by omega)⟩
        · have dl := drvN_le hΛ h2.2.2.1 (b := x) (way := w)
          unfold J_X7_drive
          rw [c0, bd1_s, if_neg n10, j7_isWay hw, bd1_s, if_neg n10, jc_driven hc (by omega) (by omega) (by omega), bd1_s]
          by_cases e2 : drvN Λ s x w = 36
          · rw [if_pos ((plI_lt _ dl).mpr e2)]
          · rw [if_neg (fun z => e2 ((plI_lt _ dl).mp z)), jc_lost hc, bd1_s, if_neg (fun z => e ⟨z, e2⟩)]
        · have cn : canN Λ s (10 * x + w) = false := by
            unfold canN
            rw [ed, em]
            by_cases e1 : lostI Λ s = 0
            · have e2 : drvN Λ s x w = 36 := by
                by_cases e3 : drvN Λ s x w = 36
                · exact e3
                · exact absurd ⟨e1, e3⟩ e
              simp [e2]
            · simp [e1]
          unfold J_X8_drive
          rw [jm_isBeast h1.2.1.2.2.1 n8.2 hx, bd1_s, if_neg n10, in03 (by omega), bd1_s, if_neg n10, y1, bd2_s, ei, z1, bd2_s, cn, if_pos (show bI false = 0 from rfl)]
    · refine ⟨-1, σ, σ, ?_, ?_, h0.le (by omega)⟩
      · unfold J_X7_drive
        rw [show J_X1_hasBeast 1 (nI x) σ = some 1 from jl_hasBeast h1.1.2.2.1 n8.2 hx, bd1_s, if_neg n10, j7_isWay0 hb, bd1_s, if_pos z00]
      · unfold J_X8_drive
        rw [jm_isBeast h1.2.1.2.2.1 n8.2 hx, bd1_s, if_neg n10, in03_0 hb, bd1_s, if_pos z00]
  · refine ⟨-1, σ, σ, ?_, ?_, h0.le (by omega)⟩
    · unfold J_X7_drive
      rw [jl_hasBeast0 h1.1.2.2.1 ha, bd1_s, if_pos z00]
    · unfold J_X8_drive
      rw [jm_isBeast0 h1.2.1.2.2.1 n8.1 n8.2 ha, bd1_s, if_pos z00]
end CALL4
