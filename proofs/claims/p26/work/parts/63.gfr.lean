/-! frames of the parts of the invariant -/
section GFR
variable {σ σ' : Sg} {Λ : LT} {s : ST} {D : Nat} {R : Nat → Nat → Prop}
end GFR
/-! calls: write, wipe, count -/
section CALL2
variable {σ : Sg} {D : Nat} {Λ : LT} {s : ST}
def Rw (a j : Nat) : Prop := a = 5 ∨ a = 150 ∨ (a = 4 ∧ j = 3) ∨ (a = 141 ∧ j = 17)
end CALL2
