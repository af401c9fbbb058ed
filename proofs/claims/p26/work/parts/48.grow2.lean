/-! a day begins, in the model -/
section GROW2
variable {σ : Sg} {Λ : LT} {s : ST}
end GROW2
