/-! all graze, in the model -/
section GRAZE2
variable {σ : Sg} {c : Nat} {Λ : LT} {s : ST}
end GRAZE2
