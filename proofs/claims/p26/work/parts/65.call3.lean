/-! calls: keep, back, undo -/
section CALL3
variable {σ : Sg} {D : Nat} {Λ : LT} {s : ST}
end CALL3
