/-! otherwise, in the model -/
section OTH2
variable {σ : Sg} {D : Nat} {Λ : LT} {s : ST} {n o : Nat} {P : Nat → ST} {T : Nat → Nat}
theorem othX4 {b x c d : Nat} (h1 : 4 ≤ d % 10) (h2 : d ≠ 99) : othX Λ n P T b x c d = false := by
  have e : drvN Λ (P c) (d / 10) (d % 10) = 36 := by
    unfold drvN
    rw [if_neg (by omega)]
  unfold othX othOK
  simp [e, h2]
end OTH2
