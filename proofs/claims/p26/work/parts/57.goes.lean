/-! a day by a drive, in the model -/
def canN (Λ : LT) (s : ST) (d : Nat) : Bool := decide (lostI Λ s = 0) && decide (drvN Λ s (d / 10) (d % 10) ≠ 36)
def W32 (a j : Nat) : Prop := a = 141 ∧ j = 32
theorem W32.wt {a j : Nat} (h : W32 a j) : Wt a j := Or.inr h
section GOES
variable {σ : Sg} {Λ : LT} {s : ST}
theorem Fr.wt {σ' : Sg} (h : Fr (fun a => a = 157) σ σ') : Fs Wt σ σ' := h.fs fun _ _ z => Or.inl z
theorem movS_P {b x : Nat} : sP (movS Λ s b x) = fun a => if a = b then x else if a = onN Λ s x then 36 else sP s a := rfl
end GOES
