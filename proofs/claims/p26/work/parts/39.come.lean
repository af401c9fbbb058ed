/-! where one comes to, driven a way -/
def snowN (Λ : LT) (s : ST) : Bool := decide (0 < lSn Λ) && decide (lSw Λ (sD s % lSn Λ) = 1)
def mtN (Λ : LT) (s : ST) (b : Nat) (war : Bool) : Bool := war && (decide (kdN Λ s b ≠ 2) && !snowN Λ s)
def comeT (Λ : LT) (s : ST) (b way : Nat) (mt : Bool) : Nat := if stepN Λ s b (sP s b) way mt = 36 then 36 else if kdN Λ s b = 0 then slideN Λ s b way mt 5 (stepN Λ s b (sP s b) way mt) else stepN Λ s b (sP s b) way mt
def wrongW (Λ : LT) (s : ST) (b way : Nat) : Prop := kdN Λ s b = 2 ∧ way ≠ (if lVl Λ b = 0 then 0 else 2)
section COME
variable {σ : Sg} {c : Nat} {Λ : LT} {s : ST}
/-- the goal of a step, whom it takes -/
def tkI (Λ : LT) (s : ST) (to : Nat) : Int32 := if to = 36 then -4 else onI (onN Λ s to)
end COME
