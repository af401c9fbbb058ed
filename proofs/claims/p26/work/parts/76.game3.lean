/-! call: game -/
section GAME3
variable {σ : Sg} {D : Nat} {Λ : LT} {s : ST}
end GAME3
