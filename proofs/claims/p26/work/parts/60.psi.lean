/-! the system between two calls -/
def Wk (a j : Nat) : Prop := (19 ≤ a ∧ a ≤ 23) ∨ (80 ≤ a ∧ a ≤ 140) ∨ 151 ≤ a ∨ (a = 141 ∧ 18 ≤ j) ∨ (6 ≤ a ∧ a ≤ 13) ∨ (a = 4 ∧ j ≠ 3)
section PSI
variable {σ σ' : Sg} {c : Nat} {Λ : LT} {s : ST} {D : Nat}
theorem LC.frs {l : Nat} {P : Nat → Nat → Prop} (h : LC σ l Λ) (f : Fs P σ σ') (hP : ∀ a j, l ≤ a → a ≤ l + 2 → ¬ P a j) : LC σ' l Λ :=
  LC.fr h (funext fun j => f _ _ (hP _ _ (by omega) (by omega))) (funext fun j => f _ _ (hP _ _ (by omega) (by omega))) (funext fun j => f _ _ (hP _ _ (by omega) (by omega)))
theorem MC.frs {P : Nat → Nat → Prop} (h : MC σ c Λ s) (f : Fs P σ σ') (hP : ∀ a j, c ≤ a → a ≤ c + 4 → ¬ P a j) : MC σ' c Λ s :=
  MC.fr h (funext fun j => f _ _ (hP _ _ (by omega) (by omega))) (funext fun j => f _ _ (hP _ _ (by omega) (by omega))) (funext fun j => f _ _ (hP _ _ (by omega) (by omega))) (funext fun j => f _ _ (hP _ _ (by omega) (by omega))) (funext fun j => f _ _ (hP _ _ (by omega) (by omega)))
theorem pm_lo (p i : Nat) : p + 1 ≤ pm p i := by
  unfold pm
  split <;> omega
theorem pm_hi (p i : Nat) : pm p i ≤ p + 2 + 5 * i := by
  unfold pm
  split <;> omega
theorem pm_dis (p : Nat) {i k : Nat} (h : i ≠ k) : pm p i + 4 < pm p k ∨ pm p k + 4 < pm p i := by
  unfold pm
  split <;> split <;> omega
theorem wk_no {a j : Nat} (h : Wk a j) : (19 ≤ a ∧ a ≤ 23) ∨ (80 ≤ a ∧ a ≤ 140) ∨ 151 ≤ a ∨ (a = 141 ∧ 18 ≤ j) ∨ (6 ≤ a ∧ a ≤ 13) ∨ (a = 4 ∧ j ≠ 3) := h
/-! copies -/
theorem jc_copy {d : Nat} (h : MC σ d Λ s) (hd : d + 4 < c ∨ c + 4 < d) : ∃ σ', J_X2_copyFrom c d σ = some ((), σ') ∧ MC σ' c Λ s ∧ Fr (fun a => c ≤ a ∧ a ≤ c + 4) σ σ' := by
  obtain ⟨m0, m1, m2, m3, m4⟩ := h
  refine ⟨_, rfl, ⟨?_, fun x hx => ?_, fun x hx => ?_, fun x hx => ?_, fun x hx => ?_⟩, fun a ha => ?_⟩
  · rw [up_s, upc_n (by omega), upc_n (by omega), upc_n (by omega), upc_n (by omega)]; exact m0
  · rw [up_n (by omega), upc_n (by omega), upc_n (by omega), upc_n (by omega), upc_s]; exact m1 x hx
  · rw [up_n (by omega), upc_n (by omega), upc_n (by omega), upc_s, upc_n (by omega)]; exact m2 x hx
  · rw [up_n (by omega), upc_n (by omega), upc_s, upc_n (by omega), upc_n (by omega)]; exact m3 x hx
  · rw [up_n (by omega), upc_s, upc_n (by omega), upc_n (by omega), upc_n (by omega)]; exact m4 x hx
  · have ha' : ¬ (c ≤ a ∧ a ≤ c + 4) := ha
    funext j
    rw [up_n (by omega), upc_n (by omega), upc_n (by omega), upc_n (by omega), upc_n (by omega)]
theorem Fr.cells {σ'' : Sg} (f : Fr (fun a => c ≤ a ∧ a ≤ c + 4) σ σ'') : Fs (fun a _ => c ≤ a ∧ a ≤ c + 4) σ σ'' := f.fs fun _ _ z => z
theorem Wt.wk {a j : Nat} (h : Wt a j) : Wk a j := by
  rcases h with z | ⟨z1, z2⟩
  · exact Or.inr (Or.inr (Or.inl (by omega)))
  · exact Or.inr (Or.inr (Or.inr (Or.inl ⟨z1, by omega⟩)))
theorem Fs.wk (f : Fs Wt σ σ') : Fs Wk σ σ' := f.mono fun _ _ z => z.wk
end PSI
