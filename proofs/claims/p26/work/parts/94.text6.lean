/-! the text, read by the model: the items -/
def JT (σ : Sg) (o : Option (Int32 × Sg)) (sp : Option (RT × Nat)) : Prop := (sp = none → ∃ σ', o = some (0, σ') ∧ Fs Rml σ σ') ∧ ∀ r' h', sp = some (r', h') → ∃ σ', o = some (1, σ') ∧ RM σ' r' ∧ σ' 141 18 = nI h' ∧ Fs Rml σ σ'
section TEXT6
variable {σ : Sg} {L : Nat → Nat} {t h : Nat} {r : RT}
theorem JT.no {σ' : Sg} {o : Option (Int32 × Sg)} {sp : Option (RT × Nat)} (e : sp = none) (h1 : o = some (0, σ')) (f : Fs Rml σ σ') : JT σ o sp :=
  ⟨fun _ => ⟨σ', h1, f⟩, fun r' h' z => by rw [e] at z; simp at z⟩
theorem JT.yes {σ' : Sg} {o : Option (Int32 × Sg)} {sp : Option (RT × Nat)} {r' : RT} {h' : Nat} (e : sp = some (r', h')) (h1 : o = some (1, σ')) (c : RM σ' r') (h4 : σ' 141 18 = nI h') (f : Fs Rml σ σ') : JT σ o sp := by
  refine ⟨fun z => by rw [e] at z; simp at z, fun r2 h2 z => ?_⟩
  rw [e] at z
  have := Prod.mk.inj (Option.some.inj z)
  rw [← this.1, ← this.2]
  exact ⟨σ', h1, c, h4, f⟩
theorem JT.fr {σ0 : Sg} {o : Option (Int32 × Sg)} {sp : Option (RT × Nat)} (f : Fs Rml σ0 σ) (i : JT σ o sp) : JT σ0 o sp :=
  ⟨fun z => by obtain ⟨σ', a, b⟩ := i.1 z; exact ⟨σ', a, f.tr b⟩, fun r' h' z => by obtain ⟨σ', a, b, c, d⟩ := i.2 r' h' z; exact ⟨σ', a, b, c, f.tr d⟩⟩
theorem JT.wrap {σ0 : Sg} {o : Option (Int32 × Sg)} {sp : Option (RT × Nat)} (f : Fs Rml σ0 σ) (i : JT σ o sp) : JT σ0 (bd2 o fun r s => (if r = 0 ∨ r = 1 then some (r, s) else none)) sp := by
  refine ⟨fun z => ?_, fun r' h' z => ?_⟩
  · obtain ⟨σ', a, b⟩ := i.1 z
    exact ⟨σ', by rw [a]; rfl, f.tr b⟩
  · obtain ⟨σ', a, b, c, d⟩ := i.2 r' h' z
    exact ⟨σ', by rw [a]; rfl, b, c, f.tr d⟩
end TEXT6
