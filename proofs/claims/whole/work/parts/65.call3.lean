/-! calls: keep, back, undo -/
section CALL3
variable {σ : Sg} {D : Nat} {Λ : LT} {s : ST}
theorem cl_keep (h : Psi D σ) : ∃ r σ1 σ2, J_X7_keep σ = some (r, σ1) ∧ J_X8_keep σ1 = some (r, σ2) ∧ Psi D σ2 := by
  have h0 := h
  obtain ⟨Λ, s, n, o, P, T, q, K, t, h1, h2, h3, h4, h5⟩ := h
  have hΛ := h1.2.2
  by_cases e : q = 2
  · refine ⟨-3, σ, σ, ?_, ?_, h0⟩
    · unfold J_X7_keep
      rw [h4.c.1, if_neg (show ¬ nI q < (2 : Int32) from by rw [li_2, nI_ltI (by omega) (by omega)]; omega)]
    · unfold J_X8_keep
      rw [h4.m.1, if_pos (neq li_2 e)]
  · have hq : q < 2 := by have := h4.g.1; omega
    obtain ⟨σ1, r1, r2, r3⟩ := jc_keep hq h2.1 h4.c
    have g1 := h1.gfr r3 fun a j z w => by omega
    have g2 := h2.gfr hΛ r3 fun a j z w => by omega
    have g3 := h3.gfr hΛ r3 fun a j z w => by omega
    have g5 := h5.gfr r3 fun a j z w => by omega
    have k1 := h4.m.fr hΛ r3 fun a j z w => by omega
    obtain ⟨σ2, t1, t2, t3⟩ := jm_keep hΛ hq g2.2.1 k1
    refine ⟨_, σ1, σ2, r1, t1, Λ, s, n, o, P, T, q + 1, _, t, g1.gfr t3 fun a j z w => by omega, g2.gfr hΛ t3 fun a j z w => by omega, g3.gfr hΛ t3 fun a j z w => by omega, PsiK.of ⟨by omega, fun i hi => ?_⟩ (r2.fr (by omega) t3 fun a j z w => by omega) t2, g5.gfr t3 fun a j z w => by omega⟩
    show SOK Λ (if i = q then s else K i) ∧ sD (if i = q then s else K i) ≤ D
    by_cases ei : i = q
    · rw [if_pos ei]; exact ⟨h2.2.2.1, h2.2.2.2⟩
    · rw [if_neg ei]; exact h4.g.2 i (by omega)
theorem cl_back (h : Psi D σ) : ∃ r σ1 σ2, J_X7_back σ = some (r, σ1) ∧ J_X8_back σ1 = some (r, σ2) ∧ Psi D σ2 := by
  have h0 := h
  obtain ⟨Λ, s, n, o, P, T, q, K, t, h1, h2, h3, h4, h5⟩ := h
  have hΛ := h1.2.2
  cases q with
  | zero =>
    refine ⟨-2, σ, σ, ?_, ?_, h0⟩
    · unfold J_X7_back
      rw [h4.c.1, if_neg (by decide)]
    · unfold J_X8_back
      rw [h4.m.1, if_pos (by decide)]
  | succ q =>
    have hq : q < 2 := by have := h4.g.1; omega
    obtain ⟨σ1, r1, r2, r3, r4, r5⟩ := jc_back hq h4.c
    have g1 := h1.gfr r5 fun a j z w => by omega
    have g5 := h5.gfr r5 fun a j z w => by omega
    have k1 := h4.m.fr hΛ r5 fun a j z w => by omega
    obtain ⟨σ2, t1, t2, t3, t4, t5⟩ := jm_back hΛ hq k1
    have gk := h4.g.2 q (by omega)
    refine ⟨_, σ1, σ2, r1, t1, Λ, K q, 0, o, P, T, q, K, t, g1.gfr t5 fun a j z w => by omega, ⟨r3.frs t5 fun a j z1 z2 w => by omega, t3, gk.1, gk.2⟩, PsiP.of ⟨by omega, h3.2.1, fun i hi => by omega⟩ ⟨?_, ?_, fun i hi => by omega⟩ ⟨t4, fun i hi => by omega⟩, PsiK.of ⟨by omega, fun i hi => h4.g.2 i (by omega)⟩ (r2.fr (by omega) t5 fun a j z w => by omega) t2, g5.gfr t5 fun a j z w => by omega⟩
    · rw [t5 24 3 (fun w => by omega)]; exact r4
    · rw [t5 24 4 (fun w => by omega), r5 24 4 (fun w => by omega)]; exact h3.2.2.2.1
theorem cl_undo (h : Psi D σ) : ∃ r σ1 σ2, J_X7_undo σ = some (r, σ1) ∧ J_X8_undo σ1 = some (r, σ2) ∧ Psi D σ2 := by
  have h0 := h
  obtain ⟨Λ, s, n, o, P, T, q, K, t, h1, h2, h3, h4, h5⟩ := h
  have hΛ := h1.2.2
  cases n with
  | zero =>
    refine ⟨-2, σ, σ, ?_, ?_, h0⟩
    · unfold J_X7_undo
      rw [h3.c.1, if_neg (by decide)]
    · unfold J_X8_undo
      rw [h3.m.1, if_pos (by decide)]
  | succ n =>
    have hn : n < 8 := by have := h3.1; omega
    obtain ⟨σ1, r1, r2, r3, r5⟩ := jc_undo hn h3.2.1 h3.c
    have g1 := h1.gfr r5 fun a j z w => by omega
    have g4 := h4.gfr hΛ r5 fun a j z w => by omega
    have g5 := h5.gfr r5 fun a j z w => by omega
    have k1 := h3.m.fr hΛ (by omega) r5 fun a j z w => by omega
    obtain ⟨σ2, t1, t2, t3, t5⟩ := jm_undo hΛ hn k1
    have gk := h3.g.2.2 n (by omega)
    exact ⟨_, σ1, σ2, r1, t1, Λ, P n, n, o, P, T, q, K, t, g1.gfr t5 fun a j z w => by omega, ⟨r3.frs t5 fun a j z1 z2 w => by omega, t3, gk.1, gk.2.1⟩, PsiP.of ⟨by omega, h3.2.1, fun i hi => h3.g.2.2 i (by omega)⟩ (r2.fr t5 fun a j z1 z2 w => by omega) t2, g4.gfr hΛ t5 fun a j z w => by omega, g5.gfr t5 fun a j z w => by omega⟩
end CALL3
