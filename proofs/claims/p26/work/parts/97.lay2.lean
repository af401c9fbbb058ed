/-! calls: fault, lay; both sides -/
section LAY2
variable {σ : Sg} {D : Nat} {L : Nat → Nat} {t : Nat} {r : RT}
theorem allR_lt : ∀ (k h : Nat) (r : RT) (a : Nat), (allR L t k r h).1 = some a → a < t
  | 0, h, r, a, e => by simp [allR] at e
  | k + 1, h, r, a, e => by
    unfold allR at e
    by_cases q : t ≤ h
    · rw [if_pos q] at e; simp at e
    · rw [if_neg q] at e
      cases y : itT L t r h with
      | none =>
        rw [y] at e
        have := Option.some.inj e
        omega
      | some p =>
        obtain ⟨r', h'⟩ := p
        rw [y] at e
        exact allR_lt k h' r' a e
def txL (σ : Sg) (i : Nat) : Nat := (σ 5 i).toNatClampNeg
theorem Rcl.wk {a j : Nat} (h : Rcl a j) : Wk a j := by
  rcases h with z | z
  · exact Or.inr (Or.inr (Or.inr (Or.inr (Or.inr ⟨z.1, by omega⟩))))
  · exact Or.inr (Or.inr (Or.inr (Or.inr (Or.inl z))))
theorem Rml.wk {a j : Nat} (h : Rml a j) : Wk a j := by
  rcases h with z | z
  · exact Or.inr (Or.inr (Or.inr (Or.inl z)))
  · exact Or.inr (Or.inr (Or.inl z.1))
theorem TM.rc {σ' : Sg} (c : TM σ L t) (f : Fs Rcl σ σ') : TM σ' L t := by
  obtain ⟨c1, c2, c3⟩ := c
  refine ⟨?_, c2, fun i hi => ?_⟩
  · rw [f 141 17 (fun z => by have := z.no; omega)]; exact c1
  · rw [f 150 i (fun z => by have := z.no; omega)]; exact c3 i hi
theorem RC.m9 (c : RC σ r) (ok : ROK r) : MC σ 9 (laΛ r) (laS r) ∧ LC σ 6 (laΛ r) := by
  obtain ⟨c0, c1, c2, c3, c4, c5, c6, c7, c8, c9, c10⟩ := c
  have q36 := ok.q36
  refine ⟨⟨c10, fun x hx => ?_, fun b hb => ?_, fun b hb => ?_, fun b hb => (c8 b hb).2.2.2⟩, ⟨c0, c1, c3, c4, c5, c6, fun b hb => (c8 b hb).1, fun k hk => c9 k hk⟩⟩
  · show σ 10 x = nI (if rG r x = 9 then 9 else (if rG r x = 9 then 0 else rG r x))
    rw [c7 x hx]
    by_cases e : rG r x = 9
    · rw [if_pos e, e]
    · rw [if_neg e, if_neg e]
  · have xb := (ok.2.2.2.2.1 b hb).2.2.1
    show σ 11 b = plI (rX r b)
    rw [(c8 b hb).2.1, plI_of (by omega)]
  · show σ 12 b = nI (kdN (laΛ r) (laS r) b)
    rw [(c8 b hb).2.2.1]
    congr 1
    unfold kdN
    rw [if_neg]
    · rfl
    · rintro ⟨_, z⟩
      have z' : (0 : Nat).testBit b = true := z
      simp at z'
theorem jc_landCopy : ∃ τ, J_X1_copyFrom 1 6 σ = some ((), τ) ∧ (∀ j, j ≤ 6 → τ 1 j = σ 6 j) ∧ τ 2 = σ 7 ∧ τ 3 = σ 8 ∧ Fr (fun a => 1 ≤ a ∧ a ≤ 3) σ τ := by
  refine ⟨_, rfl, fun j hj => ?_, ?_, ?_, fun a ha => ?_⟩
  · rcases (show j = 0 ∨ j = 1 ∨ j = 2 ∨ j = 3 ∨ j = 4 ∨ j = 5 ∨ j = 6 by omega) with z | z | z | z | z | z | z <;> rw [z] <;> simp [upc, up]
  · funext k; simp [upc, up]
  · funext k; simp [upc, up]
  · have ha' : ¬ (1 ≤ a ∧ a ≤ 3) := ha
    have n1 : ¬ a = 1 := by omega
    have n2 : ¬ a = 2 := by omega
    have n3 : ¬ a = 3 := by omega
    funext k
    simp [upc, up, n1, n2, n3]
end LAY2
