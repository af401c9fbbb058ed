/-! where one comes to is a dry square of the meadow -/
theorem stepN_open {Λ : LT} {s : ST} {b x way : Nat} {mt : Bool} (e : stepN Λ s b x way mt ≠ 36) : openN Λ s b (stepN Λ s b x way mt) mt = true := by
  unfold stepN at e ⊢
  by_cases e0 : nextN Λ x way = 36
  · rw [if_pos e0] at e; exact absurd rfl e
  · rw [if_neg e0] at e ⊢
    by_cases e1 : openN Λ s b (nextN Λ x way) mt = true
    · rw [if_pos e1]; exact e1
    · rw [if_neg e1] at e; exact absurd rfl e
theorem slideN_ok {Λ : LT} {s : ST} (hΛ : LOK Λ) {b way : Nat} {mt : Bool} (hw : way < 4) : ∀ (k to : Nat), to < lSq Λ → openN Λ s b to mt = true → slideN Λ s b way mt k to < lSq Λ ∧ openN Λ s b (slideN Λ s b way mt k to) mt = true := by
  intro k
  induction k with
  | zero => intro to h1 h2; exact ⟨h1, h2⟩
  | succ k ih =>
    intro to h1 h2
    unfold slideN
    by_cases e : onN Λ s to = 8 ∧ sG s to = 0
    · rw [if_pos e]
      by_cases e1 : stepN Λ s b to way mt = 36
      · rw [if_pos e1]; exact ⟨h1, h2⟩
      · rw [if_neg e1]
        rcases stepN_lt (s := s) (b := b) hΛ h1 hw mt with z | ⟨-, z⟩
        · exact absurd z e1
        · exact ih _ z (stepN_open e1)
    · rw [if_neg e]; exact ⟨h1, h2⟩
theorem comeT_ok {Λ : LT} {s : ST} (hΛ : LOK Λ) (hs : SOK Λ s) {b way : Nat} {mt : Bool} (hb : b < lNb Λ) (hp : sP s b ≠ 36) (hw : way < 4) (e : comeT Λ s b way mt ≠ 36) : comeT Λ s b way mt < lSq Λ ∧ openN Λ s b (comeT Λ s b way mt) mt = true := by
  have px : sP s b < lSq Λ := by rcases hs.2.1 b hb with z | z; exact absurd z hp; exact z.1
  unfold comeT at e ⊢
  by_cases e0 : stepN Λ s b (sP s b) way mt = 36
  · rw [if_pos e0] at e; exact absurd rfl e
  · rw [if_neg e0] at e ⊢
    have q : stepN Λ s b (sP s b) way mt < lSq Λ := by
      rcases stepN_lt (s := s) (b := b) hΛ px hw mt with z | ⟨-, z⟩
      · exact absurd z e0
      · exact z
    by_cases e1 : kdN Λ s b = 0
    · rw [if_pos e1]; exact slideN_ok hΛ hw 5 _ q (stepN_open e0)
    · rw [if_neg e1]; exact ⟨q, stepN_open e0⟩
theorem openN_off {Λ : LT} {s : ST} {b y : Nat} (h : openN Λ s b y false = true) : onN Λ s y = 8 := by
  unfold openN at h
  simp only [Bool.and_false, Bool.or_false, Bool.and_eq_true, decide_eq_true_eq] at h
  exact h.2.1
theorem reachT_come {Λ : LT} {s : ST} {b way : Nat} {mt : Bool} (e : reachT Λ s b way mt ≠ 36) : sP s b ≠ 36 ∧ ¬ (kdN Λ s b = 2 ∧ way ≠ (if lVl Λ b = 0 then 0 else 2)) ∧ reachT Λ s b way mt = comeT Λ s b way mt := by
  unfold reachT at e ⊢
  by_cases e0 : sP s b = 36
  · rw [if_pos e0] at e; exact absurd rfl e
  · rw [if_neg e0] at e ⊢
    by_cases e1 : kdN Λ s b = 2 ∧ way ≠ (if lVl Λ b = 0 then 0 else 2)
    · rw [if_pos e1] at e; exact absurd rfl e
    · rw [if_neg e1]; exact ⟨e0, e1, rfl⟩
theorem reachT_ok {Λ : LT} {s : ST} (hΛ : LOK Λ) (hs : SOK Λ s) {b way : Nat} {mt : Bool} (hb : b < lNb Λ) (hw : way < 4) (e : reachT Λ s b way mt ≠ 36) : reachT Λ s b way mt < lSq Λ ∧ lM Λ (reachT Λ s b way mt) ≠ 9 ∧ openN Λ s b (reachT Λ s b way mt) mt = true := by
  obtain ⟨h1, h2, h3⟩ := reachT_come e
  rw [h3] at e ⊢
  have := comeT_ok hΛ hs hb h1 hw e
  exact ⟨this.1, openN_m this.2, this.2⟩
theorem reachT_le {Λ : LT} {s : ST} (hΛ : LOK Λ) (hs : SOK Λ s) {b way : Nat} {mt : Bool} (hb : b < lNb Λ) (hw : way < 4) : reachT Λ s b way mt = 36 ∨ reachT Λ s b way mt < lSq Λ := by
  by_cases e : reachT Λ s b way mt = 36
  · exact Or.inl e
  · exact Or.inr (reachT_ok hΛ hs hb hw e).1
/-! frames by slots -/
def Fs (P : Nat → Nat → Prop) (σ σ' : Sg) : Prop := ∀ a j, ¬ P a j → σ' a j = σ a j
theorem Fs.rf {P : Nat → Nat → Prop} {σ : Sg} : Fs P σ σ := fun _ _ _ => rfl
theorem Fs.tr {P : Nat → Nat → Prop} {σ σ' σ'' : Sg} (h : Fs P σ σ') (h' : Fs P σ' σ'') : Fs P σ σ'' := fun a j ha => (h' a j ha).trans (h a j ha)
theorem Fs.mono {P Q : Nat → Nat → Prop} {σ σ' : Sg} (h : Fs P σ σ') (hPQ : ∀ a j, P a j → Q a j) : Fs Q σ σ' := fun a j ha => h a j (fun z => ha (hPQ a j z))
theorem Fs.up {P : Nat → Nat → Prop} {σ σ' : Sg} {c k : Nat} {v : Int32} (h : Fs P σ σ') (hc : P c k) : Fs P σ (up σ' c k v) := fun a j ha => by
  have e : ¬ (a = c ∧ j = k) := fun e => ha (by rw [e.1, e.2]; exact hc)
  rw [← h a j ha]
  by_cases e1 : a = c
  · rw [e1]; exact up_i (fun z => e ⟨e1, z⟩)
  · exact up_n e1
theorem Fr.fs {P : Nat → Prop} {Q : Nat → Nat → Prop} {σ σ' : Sg} (h : Fr P σ σ') (hPQ : ∀ a j, P a → Q a j) : Fs Q σ σ' := fun a j ha => by rw [h a (fun z => ha (hPQ a j z))]
theorem Fs.fr {P : Nat → Nat → Prop} {Q : Nat → Prop} {σ σ' : Sg} (h : Fs P σ σ') (hPQ : ∀ a j, P a j → Q a) : Fr Q σ σ' := fun a ha => by
  funext j
  exact h a j (fun z => ha (hPQ a j z))
/-- what a trial of the model writes: what is taken, the row as it is tried -/
def Wt (a j : Nat) : Prop := a = 157 ∨ (a = 141 ∧ j = 32)
