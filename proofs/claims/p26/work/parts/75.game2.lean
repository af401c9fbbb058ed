/-! what is won by turns; the model -/
def nxK (Λ : LT) (s : ST) : Nat → Nat → Nat
  | 0, _ => 99
  | k + 1, d => if canN Λ s d = true then d else nxK Λ s k (d + 1)
/-- the first drive not before d, resting last -/
def nxN (Λ : LT) (s : ST) (d : Nat) : Nat := nxK Λ s (10 * lNb Λ - d) d
theorem nxK_spec {Λ : LT} {s : ST} (h8 : lNb Λ ≤ 8) : ∀ k d, d + k = 10 * lNb Λ ∨ (k = 0 ∧ 10 * lNb Λ ≤ d) → d ≤ 99 → d ≤ nxK Λ s k d ∧ nxK Λ s k d ≤ 99 ∧ (nxK Λ s k d = 99 ∨ canN Λ s (nxK Λ s k d) = true) ∧ ∀ e, d ≤ e → e < nxK Λ s k d → e < 10 * lNb Λ → canN Λ s e = false := by
  intro k
  induction k with
  | zero =>
    intro d h1 h2
    unfold nxK
    exact ⟨h2, Nat.le_refl _, Or.inl rfl, fun e z1 z2 z3 => by omega⟩
  | succ k ih =>
    intro d h1 h2
    unfold nxK
    cases c : canN Λ s d with
    | true =>
      rw [if_pos rfl]
      exact ⟨Nat.le_refl _, h2, Or.inr c, fun e z1 z2 _ => by omega⟩
    | false =>
      rw [if_neg (by decide)]
      obtain ⟨i1, i2, i3, i4⟩ := ih (d + 1) (by omega) (by omega)
      refine ⟨by omega, i2, i3, fun e z1 z2 z3 => ?_⟩
      by_cases q : e = d
      · rw [q]; exact c
      · exact i4 e (by omega) z2 z3
theorem nxN_spec {Λ : LT} {s : ST} (h8 : lNb Λ ≤ 8) {d : Nat} (hd : d ≤ 99) : d ≤ nxN Λ s d ∧ nxN Λ s d ≤ 99 ∧ (nxN Λ s d = 99 ∨ canN Λ s (nxN Λ s d) = true) ∧ ∀ e, d ≤ e → e < nxN Λ s d → e < 10 * lNb Λ → canN Λ s e = false :=
  nxK_spec h8 _ _ (by omega) hd
theorem can_drv {Λ : LT} {s : ST} (hl : lostI Λ s = 0) (d : Nat) : canN Λ s d = decide (drvN Λ s (d / 10) (d % 10) ≠ 36) := by
  unfold canN
  simp [hl]
theorem gmF_skip {v : ST → Int32} {Λ : LT} {s : ST} (h8 : lNb Λ ≤ 8) (hl : lostI Λ s = 0) {a : Int32 × Int32} : ∀ (k d : Nat), d + k = nxN Λ s d → d ≤ 99 → ∀ (t e : Nat), e + t = nxN Λ s d → d ≤ e → gmF v Λ s (100 - e) e a = gmF v Λ s (100 - nxN Λ s d) (nxN Λ s d) a := by
  intro k d hk hd t
  obtain ⟨n1, n2, n3, n4⟩ := nxN_spec (s := s) h8 hd
  induction t with
  | zero =>
    intro e h1 h2
    rw [show e = nxN Λ s d by omega]
  | succ t ih =>
    intro e h1 h2
    rw [← ih (e + 1) (by omega) (by omega), show 100 - e = (100 - (e + 1)) + 1 by omega, gmF]
    rw [if_neg]
    intro z
    rcases z with z | z
    · omega
    · by_cases c : e < 10 * lNb Λ
      · have := n4 e h2 (by omega) c
        rw [can_drv hl] at this
        simp [z] at this
      · exact z (by unfold drvN; rw [if_neg (by omega)])
theorem gmF_next {v : ST → Int32} {Λ : LT} {s : ST} (h8 : lNb Λ ≤ 8) (hl : lostI Λ s = 0) {a : Int32 × Int32} {d : Nat} (hd : d ≤ 99) : gmF v Λ s (100 - d) d a = gmF v Λ s (100 - (nxN Λ s d + 1)) (nxN Λ s d + 1) (gmU (sD s % 2) (nxN Λ s d) (v (livS Λ s (nxN Λ s d))) a) := by
  obtain ⟨n1, n2, n3, n4⟩ := nxN_spec (s := s) h8 hd
  rw [gmF_skip h8 hl (nxN Λ s d - d) d (by omega) hd (nxN Λ s d - d) d (by omega) (Nat.le_refl _), show 100 - nxN Λ s d = (100 - (nxN Λ s d + 1)) + 1 by omega, gmF, if_pos]
  rcases n3 with z | z
  · exact Or.inl z
  · rw [can_drv hl] at z
    exact Or.inr (by simpa using z)
/-- how many rounds a node takes at most -/
def gmC : Nat → Nat
  | 0 => 1
  | m + 1 => 1 + 100 * (1 + gmC m)
def GL (L : Nat) (a j : Nat) : Prop := Wt a j ∨ (a = 162 ∧ 54 * (L + 1) ≤ j) ∨ (a = 163 ∧ L ≤ j) ∨ (a = 164 ∧ L ≤ j)
theorem GL.no {L a j : Nat} (h : GL L a j) : a = 157 ∨ (a = 141 ∧ j = 32) ∨ (a = 162 ∧ 54 * (L + 1) ≤ j) ∨ (a = 163 ∧ L ≤ j) ∨ (a = 164 ∧ L ≤ j) := by
  rcases h with (z | z) | z
  · exact Or.inl z
  · exact Or.inr (Or.inl z)
  · exact Or.inr (Or.inr z)
theorem GL.up {L a j : Nat} (h : GL (L + 1) a j) : GL L a j := by
  rcases h with z | z | z | z
  · exact Or.inl z
  · exact Or.inr (Or.inl ⟨z.1, by omega⟩)
  · exact Or.inr (Or.inr (Or.inl ⟨z.1, by omega⟩))
  · exact Or.inr (Or.inr (Or.inr ⟨z.1, by omega⟩))
section GAME2
variable {σ : Sg} {D : Nat} {Λ : LT} {s : ST}
end GAME2
