/-! the fewest days to the well; what is looked for, the class -/
def watK (Λ : LT) (s : ST) (v : Nat) : Nat → Nat → Bool
  | 0, _ => false
  | k + 1, b => if b < lNb Λ then (decide (lVl Λ b = v) && (decide (lKd Λ b = 0) && decide (sP s b = lWl Λ))) || watK Λ s v k (b + 1) else false
def watN (Λ : LT) (s : ST) (v : Nat) : Bool := watK Λ s v 9 0
theorem watK_iff {Λ : LT} {s : ST} {v : Nat} (h8 : lNb Λ ≤ 8) : ∀ k b, b + k = 9 → (watK Λ s v k b = true ↔ ∃ a, b ≤ a ∧ a < lNb Λ ∧ lVl Λ a = v ∧ lKd Λ a = 0 ∧ sP s a = lWl Λ) := by
  intro k
  induction k with
  | zero =>
    intro b hb
    unfold watK
    exact ⟨fun z => absurd z (by decide), fun ⟨a, z1, z2, _⟩ => by omega⟩
  | succ k ih =>
    intro b hb
    unfold watK
    by_cases h : b < lNb Λ
    · rw [if_pos h, Bool.or_eq_true, ih (b + 1) (by omega)]
      simp only [Bool.and_eq_true, decide_eq_true_eq]
      constructor
      · rintro (⟨z1, z2, z3⟩ | ⟨a, z1, z2⟩)
        · exact ⟨b, Nat.le_refl _, h, z1, z2, z3⟩
        · exact ⟨a, by omega, z2⟩
      · rintro ⟨a, z1, z2, z3, z4, z5⟩
        by_cases e : a = b
        · rw [e] at z3 z4 z5
          exact Or.inl ⟨z3, z4, z5⟩
        · exact Or.inr ⟨a, by omega, z2, z3, z4, z5⟩
    · rw [if_neg h]
      exact ⟨fun z => absurd z (by decide), fun ⟨a, z1, z2, _⟩ => by omega⟩
theorem watN_iff {Λ : LT} {s : ST} {v : Nat} (h8 : lNb Λ ≤ 8) : watN Λ s v = true ↔ ∃ a, a < lNb Λ ∧ lVl Λ a = v ∧ lKd Λ a = 0 ∧ sP s a = lWl Λ := by
  unfold watN
  rw [watK_iff h8 9 0 rfl]
  exact ⟨fun ⟨a, _, z⟩ => ⟨a, z⟩, fun ⟨a, z⟩ => ⟨a, Nat.zero_le a, z⟩⟩
theorem kdN_0 {Λ : LT} {s : ST} {b : Nat} : kdN Λ s b = 0 ↔ lKd Λ b = 0 := by
  unfold kdN
  split
  · rename_i z
    constructor
    · intro y; omega
    · intro y; omega
  · exact Iff.rfl
/-- the first row of drives; one by one from drive d on -/
def smL (Λ : LT) (v : Nat) (rec : ST → Option (List Nat)) (s : ST) : Nat → Nat → Option (List Nat)
  | 0, _ => none
  | k + 1, d => if (d = 99 ∨ drvN Λ s (d / 10) (d % 10) ≠ 36) ∧ staN Λ (livS Λ s d) v = staN Λ s v then (match rec (livS Λ s d) with
    | some r => some (d :: r)
    | none => smL Λ v rec s k (d + 1)) else smL Λ v rec s k (d + 1)
def smF (Λ : LT) (v : Nat) : Nat → ST → Option (List Nat)
  | 0, s => if watN Λ s v = true then some [] else none
  | m + 1, s => if lostI Λ s = 0 then (if sD s % 2 = v then smL Λ v (smF Λ v m) s 100 0 else smL Λ v (smF Λ v m) s 1 99) else none
theorem graB_P {Λ : LT} {s : ST} {a b : Nat} : sP (graB Λ s b) a = sP s a ∨ sP (graB Λ s b) a = 36 := by
  unfold graB
  split
  · exact Or.inl rfl
  · split
    · show (if a = b then (if sH s b + 1 ≤ lBe Λ then sP s b else 36) else sP s a) = _ ∨ (if a = b then (if sH s b + 1 ≤ lBe Λ then sP s b else 36) else sP s a) = 36
      by_cases e : a = b
      · rw [if_pos e, e]
        split
        · exact Or.inl rfl
        · exact Or.inr rfl
      · rw [if_neg e]; exact Or.inl rfl
    · exact Or.inl rfl
theorem graK_P {Λ : LT} {s : ST} {a : Nat} : ∀ n, sP (graK Λ s n) a = sP s a ∨ sP (graK Λ s n) a = 36
  | 0 => Or.inl rfl
  | n + 1 => by
    show sP (graB Λ (graK Λ s n) n) a = sP s a ∨ sP (graB Λ (graK Λ s n) n) a = 36
    rcases graB_P (Λ := Λ) (s := graK Λ s n) (a := a) (b := n) with z | z
    · rw [z]; exact graK_P n
    · exact Or.inr z
theorem passS_P {Λ : LT} {s : ST} {a : Nat} : sP (passS Λ s) a = sP s a ∨ sP (passS Λ s) a = 36 := by
  unfold passS
  rw [nextS_P]
  exact graK_P _
/-- none is on the well that was not: behind resting, behind a drive of another kind -/
theorem wat_rest {Λ : LT} {s : ST} {v : Nat} (h8 : lNb Λ ≤ 8) (hw : lWl Λ ≠ 36) (h : watN Λ s v = false) : watN Λ (passS Λ s) v = false := by
  cases e : watN Λ (passS Λ s) v
  · rfl
  · obtain ⟨a, z1, z2, z3, z4⟩ := (watN_iff h8).mp e
    rcases passS_P (Λ := Λ) (s := s) (a := a) with y | y
    · rw [y] at z4
      rw [(watN_iff h8).mpr ⟨a, z1, z2, z3, z4⟩] at h
      exact h
    · rw [y] at z4; exact absurd z4.symm hw
theorem wat_drive {Λ : LT} {s : ST} {v d : Nat} (h8 : lNb Λ ≤ 8) (hw : lWl Λ ≠ 36) (h : watN Λ s v = false) (hd : d ≠ 99) (hc : drvN Λ s (d / 10) (d % 10) ≠ 36) (hn : ¬ (drvN Λ s (d / 10) (d % 10) = lWl Λ ∧ kdN Λ s (d / 10) = 0)) : watN Λ (livS Λ s d) v = false := by
  cases e : watN Λ (livS Λ s d) v
  · rfl
  · obtain ⟨a, z1, z2, z3, z4⟩ := (watN_iff h8).mp e
    unfold livS at z4
    rw [if_neg hd, if_neg hc] at z4
    rcases passS_P (Λ := Λ) (s := movS Λ s (d / 10) (drvN Λ s (d / 10) (d % 10))) (a := a) with y | y
    · rw [y, movS_P] at z4
      have z5 : (if a = d / 10 then drvN Λ s (d / 10) (d % 10) else if a = onN Λ s (drvN Λ s (d / 10) (d % 10)) then 36 else sP s a) = lWl Λ := z4
      by_cases e1 : a = d / 10
      · rw [if_pos e1] at z5
        exact absurd ⟨z5, kdN_0.mpr (by rw [← e1]; exact z3)⟩ hn
      · rw [if_neg e1] at z5
        by_cases e2 : a = onN Λ s (drvN Λ s (d / 10) (d % 10))
        · rw [if_pos e2] at z5; exact absurd z5.symm hw
        · rw [if_neg e2] at z5
          rw [(watN_iff h8).mpr ⟨a, z1, z2, z3, z5⟩] at h
          exact h
    · rw [y] at z4; exact absurd z4.symm hw
theorem smL_off {Λ : LT} {v : Nat} {rec : ST → Option (List Nat)} {s : ST} : ∀ (t d : Nat), d + t = 99 → 10 * lNb Λ ≤ d → smL Λ v rec s (t + 1) d = smL Λ v rec s 1 99 := by
  intro t
  induction t with
  | zero => intro d h1 h2; rw [show d = 99 by omega]
  | succ t ih =>
    intro d h1 h2
    rw [← ih (d + 1) (by omega) (by omega), smL, if_neg]
    rintro ⟨z | z, -⟩
    · omega
    · exact z (by unfold drvN; rw [if_neg (by omega)])
/-- nothing found: nothing found behind any day that can be -/
theorem smL_none {Λ : LT} {v : Nat} {rec : ST → Option (List Nat)} {s : ST} : ∀ (k d : Nat), smL Λ v rec s k d = none → ∀ e, d ≤ e → e < d + k → (e = 99 ∨ drvN Λ s (e / 10) (e % 10) ≠ 36) → staN Λ (livS Λ s e) v = staN Λ s v → rec (livS Λ s e) = none := by
  intro k
  induction k with
  | zero => intro d h e h1 h2; omega
  | succ k ih =>
    intro d h e h1 h2 h3 h4
    rw [smL] at h
    by_cases c : (d = 99 ∨ drvN Λ s (d / 10) (d % 10) ≠ 36) ∧ staN Λ (livS Λ s d) v = staN Λ s v
    · rw [if_pos c] at h
      cases q : rec (livS Λ s d) with
      | some r => rw [q] at h; exact absurd h (by simp)
      | none =>
        rw [q] at h
        by_cases ed : e = d
        · rw [ed]; exact q
        · exact ih (d + 1) h e (by omega) (by omega) h3 h4
    · rw [if_neg c] at h
      by_cases ed : e = d
      · rw [ed] at h3 h4; exact absurd ⟨h3, h4⟩ c
      · exact ih (d + 1) h e (by omega) (by omega) h3 h4
def ofD (v D : Nat) : Nat := if D % 2 = v then 0 else 1
/-- what the class keeps of a summer: how many own days, what is done on each -/
def PF (v own D m : Nat) (r : List Nat) (σ : Sg) : Prop := σ 92 3 = nI (own + (m + 1 - ofD v D) / 2) ∧ ∀ i, 2 * i + ofD v D < m → σ 93 (own + i) = nI (r.getD (2 * i + ofD v D) 0)
section SUMMER
variable {σ : Sg} {D : Nat} {Λ : LT} {s : ST}
theorem jc_ramOnWell {c v : Nat} (h : CC σ c Λ s) (hw : lWl Λ ≠ 36) (hv : v ≤ 1) : J_X2_ramOnWell c (nI v) σ = some (bI (watN Λ s v)) := by
  have h8 := h.nb8
  have h36 := h.sq36
  have q4 : σ (lnd c) 4 = plI (lWl Λ) := h.1.2.2.2.1
  have w36 : lWl Λ < 36 := by rcases h.2.2.1.2.2.2.2.2.1 with z | z; exact absurd z hw; omega
  unfold J_X2_ramOnWell
  rw [q4, plI_of hw, jc_occ h w36, bd1_s]
  rcases onN_spec Λ s (lWl Λ) h8 with ⟨z1, z2⟩ | ⟨z1, z2⟩
  · rw [if_pos ((onI_m4 (by omega)).mpr z1)]
    cases e : watN Λ s v
    · rfl
    · obtain ⟨a, y1, y2, y3, y4⟩ := (watN_iff h8).mp e
      exact absurd y4 (z2 a y1)
  · have v1 := (h.2.2.1.2.2.2.2.2.2.2.1 _ z1).2
    have k3 := kdN_le (s := s) h.2.2.1 z1
    have oi : onI (onN Λ s (lWl Λ)) = nI (onN Λ s (lWl Λ)) := if_neg (by omega)
    rw [oi, if_neg (nI_nem4 (by omega)), jc_kindOf h z1, bd1_s]
    have own : ∀ a, a < lNb Λ → sP s a = lWl Λ → a = onN Λ s (lWl Λ) := fun a ha e => h.2.2.2.2.2.1 a _ ha z1 (by rw [e, z2]) (by rw [e]; exact hw)
    generalize onN Λ s (lWl Λ) = b at z1 z2 v1 k3 own ⊢
    by_cases e1 : kdN Λ s b = 0
    · rw [if_pos (neq li_0 e1), jc_villageOf h z1, bd1_s]
      by_cases e2 : lVl Λ b = v
      · rw [if_pos (by rw [e2]), (watN_iff h8).mpr ⟨b, z1, e2, kdN_0.mp e1, z2⟩]
        rfl
      · rw [if_neg (fun z => e2 ((nI_inj (by omega) (by omega)).mp z))]
        cases e : watN Λ s v
        · rfl
        · obtain ⟨a, y1, y2, y3, y4⟩ := (watN_iff h8).mp e
          rw [own a y1 y4] at y2
          exact absurd y2 e2
    · rw [if_neg (nne li_0 (by omega) (by omega) e1)]
      cases e : watN Λ s v
      · rfl
      · obtain ⟨a, y1, y2, y3, y4⟩ := (watN_iff h8).mp e
        rw [own a y1 y4] at y3
        exact absurd (kdN_0.mpr y3) e1
theorem jc_rest {l : Nat} (hl : l + 1 < 9) (h : CC σ (pm 94 l) Λ s) (hd : sD s < 2 ^ 28) : ∃ σ', J_X0_pass (nI l) (-4) (-4) σ = some (pm 94 (l + 1), σ') ∧ CC σ' (pm 94 (l + 1)) Λ (livS Λ s 99) ∧ Fr (fun a => pm 94 (l + 1) ≤ a ∧ a ≤ pm 94 (l + 1) + 4) σ σ' := by
  have g := jc_passL hl h hd (d := 99) (Or.inl rfl) (by decide)
  rw [if_pos rfl, if_pos rfl] at g
  exact g
theorem jc_note {own d : Nat} (h : own < 5) : J_X0_note (nI own) (nI d) σ = some ((), up σ 93 own (nI d)) := by
  unfold J_X0_note
  rw [if_neg (nI_nlt0 (by omega)), if_neg (show ¬ (5 : Int32) ≤ nI own from by rw [li_5, nI_leI (by omega) (by omega)]; omega), if_pos ((inb_nI (by omega)).mpr h), nI_clamp (by omega)]
theorem PF.own {v own d m : Nat} {r : List Nat} (hv : sD s % 2 = v) (h : PF v (own + 1) (sD s + 1) m r σ) : PF v own (sD s) (m + 1) (d :: r) (up σ 93 own (nI d)) := by
  have o0 : ofD v (sD s) = 0 := if_pos hv
  have o1 : ofD v (sD s + 1) = 1 := if_neg (by omega)
  unfold PF at h ⊢
  rw [o1] at h
  rw [o0]
  refine ⟨?_, fun i hi => ?_⟩
  · rw [up_n (by decide), h.1]; congr 1; omega
  · cases i with
    | zero => rw [Nat.add_zero, up_s]; rfl
    | succ i =>
      rw [up_i (by omega), show own + (i + 1) = own + 1 + i by omega, h.2 i (by omega), show 2 * (i + 1) + 0 = (2 * i + 1) + 1 by omega]
      rfl
theorem PF.oth {v own m : Nat} {r : List Nat} (hv : ¬ sD s % 2 = v) (hv1 : v ≤ 1) (h : PF v own (sD s + 1) m r σ) : PF v own (sD s) (m + 1) (99 :: r) σ := by
  have o0 : ofD v (sD s) = 1 := if_neg hv
  have o1 : ofD v (sD s + 1) = 0 := if_pos (by omega)
  unfold PF at h ⊢
  rw [o1] at h
  rw [o0]
  refine ⟨?_, fun i hi => ?_⟩
  · rw [h.1]; congr 1
  · rw [h.2 i (by omega)]
    rfl
/-- what a search from a level on may change -/
def FS (l a : Nat) : Prop := a = 92 ∨ a = 93 ∨ (pm 94 l + 4 < a ∧ a ≤ 140)
theorem FS.no {l a : Nat} (h : FS l a) : a = 92 ∨ a = 93 ∨ (pm 94 l + 4 < a ∧ a ≤ 140) := h
theorem CC.fs {l : Nat} {σ' : Sg} (hl : l < 9) (h : CC σ (pm 94 l) Λ s) (f : Fr (FS l) σ σ') : CC σ' (pm 94 l) Λ s := by
  have p := pm94 hl
  exact h.keep (lnd94 hl) f (fun w => by have := w.no; omega) (fun w => by have := w.no; omega) (fun w => by have := w.no; omega) (fun a z1 z2 w => by have := w.no; omega)
theorem FS.dn {l a : Nat} (hl : l + 1 < 9) (h : FS (l + 1) a) : FS l a := by
  have p1 := pm94 (show l < 9 by omega)
  have p2 := pm94 hl
  have p3 := p1.2.2 hl
  rcases h with z | z | z
  · exact Or.inl z
  · exact Or.inr (Or.inl z)
  · exact Or.inr (Or.inr ⟨by omega, z.2⟩)
theorem FS.nx {l a : Nat} (hl : l + 1 < 9) (h : pm 94 (l + 1) ≤ a ∧ a ≤ pm 94 (l + 1) + 4) : FS l a := by
  have p1 := pm94 (show l < 9 by omega)
  have p2 := pm94 hl
  have p3 := p1.2.2 hl
  exact Or.inr (Or.inr ⟨by omega, by omega⟩)
end SUMMER
