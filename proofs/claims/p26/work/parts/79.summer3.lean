/-! the fewest days to the well; the model's search -/
def nxV (Λ : LT) (v : Nat) (s : ST) (d : Nat) : Nat := if sD s % 2 = v then nxN Λ s d else 99
def smT (Λ : LT) (v m : Nat) (s : ST) (d : Nat) : Option (List Nat) := if sD s % 2 = v then smL Λ v (smF Λ v m) s (100 - d) d else if d ≤ 99 then smL Λ v (smF Λ v m) s 1 99 else none
def smM (Λ : LT) (v m : Nat) (s : ST) (x : Nat) (o : Option (List Nat)) : Option (List Nat) := if staN Λ (livS Λ s x) v = staN Λ s v then (match smF Λ v m (livS Λ s x) with
    | some r => some (x :: r)
    | none => o) else o
theorem smL_skip {Λ : LT} {v : Nat} {rec : ST → Option (List Nat)} {s : ST} (h8 : lNb Λ ≤ 8) (hl : lostI Λ s = 0) {d : Nat} (hd : d ≤ 99) : ∀ (t e : Nat), e + t = nxN Λ s d → d ≤ e → smL Λ v rec s (100 - e) e = smL Λ v rec s (100 - nxN Λ s d) (nxN Λ s d) := by
  intro t
  obtain ⟨n1, n2, n3, n4⟩ := nxN_spec (s := s) h8 hd
  induction t with
  | zero =>
    intro e h1 h2
    rw [show e = nxN Λ s d by omega]
  | succ t ih =>
    intro e h1 h2
    rw [← ih (e + 1) (by omega) (by omega), show 100 - e = (100 - (e + 1)) + 1 by omega, smL, if_neg]
    rintro ⟨z | z, -⟩
    · omega
    · by_cases c : e < 10 * lNb Λ
      · have := n4 e h2 (by omega) c
        rw [can_drv hl] at this
        simp [z] at this
      · exact z (by unfold drvN; rw [if_neg (by omega)])
theorem smT_next {Λ : LT} {v m : Nat} {s : ST} (h8 : lNb Λ ≤ 8) (hl : lostI Λ s = 0) {d : Nat} (hd : d ≤ 99) : d ≤ nxV Λ v s d ∧ nxV Λ v s d ≤ 99 ∧ (nxV Λ v s d = 99 ∨ drvN Λ s (nxV Λ v s d / 10) (nxV Λ v s d % 10) ≠ 36) ∧ smT Λ v m s d = smM Λ v m s (nxV Λ v s d) (smT Λ v m s (nxV Λ v s d + 1)) := by
  unfold nxV smT
  by_cases e : sD s % 2 = v
  · rw [if_pos e, if_pos e, if_pos e]
    obtain ⟨n1, n2, n3, n4⟩ := nxN_spec (s := s) h8 hd
    have n3' : nxN Λ s d = 99 ∨ drvN Λ s (nxN Λ s d / 10) (nxN Λ s d % 10) ≠ 36 := by
      rcases n3 with z | z
      · exact Or.inl z
      · rw [can_drv hl] at z; exact Or.inr (by simpa using z)
    refine ⟨n1, n2, n3', ?_⟩
    rw [smL_skip h8 hl hd (nxN Λ s d - d) d (by omega) (Nat.le_refl _), show 100 - nxN Λ s d = (100 - (nxN Λ s d + 1)) + 1 by omega, smL]
    unfold smM
    by_cases c : staN Λ (livS Λ s (nxN Λ s d)) v = staN Λ s v
    · rw [if_pos ⟨n3', c⟩, if_pos c]
      cases smF Λ v m (livS Λ s (nxN Λ s d)) <;> rfl
    · rw [if_neg (fun z => c z.2), if_neg c]
  · rw [if_neg e, if_neg e, if_neg e, if_pos hd, if_neg (show ¬ 99 + 1 ≤ 99 by decide)]
    refine ⟨hd, Nat.le_refl _, Or.inl rfl, ?_⟩
    rw [smL]
    unfold smM
    by_cases c : staN Λ (livS Λ s 99) v = staN Λ s v
    · rw [if_pos ⟨Or.inl rfl, c⟩, if_pos c]
      cases smF Λ v m (livS Λ s 99) <;> rfl
    · rw [if_neg (fun z => c z.2), if_neg c]
      rfl
section SUMMER3
variable {σ : Sg} {D : Nat} {Λ : LT} {s : ST}
end SUMMER3
