/-! calls: drive, rest -/
section CALL4
variable {σ : Sg} {D : Nat} {Λ : LT} {s : ST}
theorem adG {n o d : Nat} {P : Nat → ST} {T : Nat → Nat} (g : PgP D Λ n o P T) (h1 : SOK Λ s) (h2 : sD s ≤ D) (h3 : lostI Λ s = 0) (h4 : d < 100) : PgP D Λ (adN n) (adO n o) (adF n P s) (adF n T d) := by
  obtain ⟨g1, g2, g3⟩ := g
  unfold adN adO adF
  by_cases e : n < 8
  · rw [if_pos e, if_pos e, if_pos e, if_pos e]
    refine ⟨by omega, g2, fun i hi => ?_⟩
    show SOK Λ (if i = n then s else P i) ∧ sD (if i = n then s else P i) ≤ D ∧ lostI Λ (if i = n then s else P i) = 0 ∧ (if i = n then d else T i) < 100
    by_cases ei : i = n
    · rw [if_pos ei, if_pos ei]; exact ⟨h1, h2, h3, h4⟩
    · rw [if_neg ei, if_neg ei]; exact g3 i (by omega)
  · rw [if_neg e, if_neg e, if_neg e, if_neg e]
    refine ⟨by omega, Nat.mod_lt _ (by decide), fun i hi => ?_⟩
    show SOK Λ (if i = 7 then s else P (i + 1)) ∧ sD (if i = 7 then s else P (i + 1)) ≤ D ∧ lostI Λ (if i = 7 then s else P (i + 1)) = 0 ∧ (if i = 7 then d else T (i + 1)) < 100
    by_cases ei : i = 7
    · rw [if_pos ei, if_pos ei]; exact ⟨h1, h2, h3, h4⟩
    · rw [if_neg ei, if_neg ei]; exact g3 (i + 1) (by omega)
theorem PgP.le {n o D' : Nat} {P : Nat → ST} {T : Nat → Nat} (hD : D ≤ D') (g : PgP D Λ n o P T) : PgP D' Λ n o P T :=
  ⟨g.1, g.2.1, fun i hi => ⟨(g.2.2 i hi).1, Nat.le_trans (g.2.2 i hi).2.1 hD, (g.2.2 i hi).2.2⟩⟩
end CALL4
