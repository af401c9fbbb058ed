/-! calls: square, beast, goes, takes -/
theorem nm1 : ¬ (0 : Int32) ≤ -1 := by decide
theorem nm2 : ¬ (0 : Int32) ≤ -2 := by decide
theorem nm4 : ¬ (0 : Int32) ≤ plI 36 := by decide
section CALL1
variable {σ : Sg} {D : Nat} {Λ : LT} {s : ST}
end CALL1
