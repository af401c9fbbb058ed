def Wy (a j : Nat) : Prop := a = 157 ∨ (a = 141 ∧ (j = 32 ∨ j = 37)) ∨ (158 ≤ a ∧ a ≤ 161)
theorem Wy.no {a j : Nat} (h : Wy a j) : a = 157 ∨ (a = 141 ∧ (j = 32 ∨ j = 37)) ∨ (158 ≤ a ∧ a ≤ 161) := h
theorem Wt.wy {a j : Nat} (h : Wt a j) : Wy a j := by
  rcases h with z | z
  · exact Or.inl z
  · exact Or.inr (Or.inl ⟨z.1, Or.inl z.2⟩)
theorem Wy.wk {a j : Nat} (h : Wy a j) : Wk a j := by
  rcases h with z | z | z
  · exact Or.inr (Or.inr (Or.inl (by omega)))
  · exact Or.inr (Or.inr (Or.inr (Or.inl ⟨z.1, by omega⟩)))
  · exact Or.inr (Or.inr (Or.inl (by omega)))
section WALK5
variable {σ : Sg} {Λ : LT} {s : ST} {b o0 : Nat}
def addM (σ : Sg) (o n : Nat) (f q w : Int32) : Sg := up (up (up (up (up σ 159 o f) 160 o q) 161 o w) 158 n (nI o)) 141 37 (nI (n + 1))
theorem addM_fr {o n : Nat} {f q w : Int32} : Fs Wy σ (addM σ o n f q w) := by
  unfold addM
  exact Fs.up (P := Wy) (Fs.up (P := Wy) (Fs.up (P := Wy) (Fs.up (P := Wy) (Fs.up (P := Wy) Fs.rf (Or.inr (Or.inr ⟨by decide, by decide⟩))) (Or.inr (Or.inr ⟨by decide, by decide⟩))) (Or.inr (Or.inr ⟨by decide, by decide⟩))) (Or.inr (Or.inr ⟨by decide, by decide⟩))) (Or.inr (Or.inl ⟨rfl, Or.inr rfl⟩))
end WALK5
