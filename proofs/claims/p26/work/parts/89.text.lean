/-! the text, read; what is told, the class -/
abbrev RT : Type := (Nat × Nat × Nat × Nat × Nat × Nat × Nat) × (Nat → Nat) × (Nat → Nat) × (Nat → Nat) × (Nat → Nat) × (Nat → Nat)
def rQ (r : RT) : Nat := r.1.1
def rW (r : RT) : Nat := r.1.2.1
def rR (r : RT) : Nat := r.1.2.2.1
def rB (r : RT) : Nat := r.1.2.2.2.1
def rBe (r : RT) : Nat := r.1.2.2.2.2.1
def rSn (r : RT) : Nat := r.1.2.2.2.2.2.1
def rWl (r : RT) : Nat := r.1.2.2.2.2.2.2
def rG (r : RT) : Nat → Nat := r.2.1
def rK (r : RT) : Nat → Nat := r.2.2.1
def rV (r : RT) : Nat → Nat := r.2.2.2.1
def rX (r : RT) : Nat → Nat := r.2.2.2.2.1
def rS (r : RT) : Nat → Nat := r.2.2.2.2.2
def chT (L : Nat → Nat) (t h : Nat) : Nat := if h < t then L h else 0
def isF (c : Nat) : Bool := decide (48 ≤ c) && decide (c ≤ 57)
def numT (L : Nat → Nat) (t h : Nat) : Option Nat × Nat := if isF (chT L t h) = true then (if isF (chT L t (h + 1)) = true then (some (10 * (chT L t h - 48) + (chT L t (h + 1) - 48)), h + 2) else (some (chT L t h - 48), h + 1)) else (none, h)
def tokT (L : Nat → Nat) (t c h : Nat) : Option (Nat × Nat) := match (numT L t h).1 with
  | some a => if chT L t (numT L t h).2 = c then some (a, (numT L t h).2 + 1) else none
  | none => none
def digT (L : Nat → Nat) (t : Nat) : Nat → Nat → Nat
  | 0, _ => 0
  | k + 1, h => if isF (chT L t h) = true then 1 + digT L t k (h + 1) else 0
def rowT (L : Nat → Nat) (t : Nat) (r : RT) (h : Nat) : Option (RT × Nat) := if rR r < 6 ∧ 1 ≤ digT L t 6 h ∧ (rR r = 0 ∨ digT L t 6 h = rW r) ∧ chT L t (h + digT L t 6 h) = 59 then some (((rQ r + digT L t 6 h, digT L t 6 h, rR r + 1, rB r, rBe r, rSn r, rWl r), (fun x => if x < rQ r then rG r x else chT L t (h + (x - rQ r)) - 48), rK r, rV r, rX r, rS r), h + digT L t 6 h + 1) else none
def dryT (r : RT) (x : Nat) : Bool := decide (x < rQ r) && decide (rG r x ≠ 9)
def beaT (L : Nat → Nat) (t : Nat) (r : RT) (h : Nat) : Option (RT × Nat) := match tokT L t 44 h with
  | none => none
  | some (k, h1) => match tokT L t 44 h1 with
    | none => none
    | some (v, h2) => match tokT L t 59 h2 with
      | none => none
      | some (x, h3) => if k ≤ 3 ∧ v ≤ 1 ∧ rB r < 8 ∧ dryT r x = true ∧ memK (rX r) x (rB r) = false then some (((rQ r, rW r, rR r, rB r + 1, rBe r, rSn r, rWl r), rG r, (fun a => if a = rB r then k else rK r a), (fun a => if a = rB r then v else rV r a), (fun a => if a = rB r then x else rX r a), rS r), h3) else none
def welT (L : Nat → Nat) (t : Nat) (r : RT) (h : Nat) : Option (RT × Nat) := match tokT L t 59 h with
  | none => none
  | some (x, h1) => if dryT r x = true then some (((rQ r, rW r, rR r, rB r, rBe r, rSn r, x), rG r, rK r, rV r, rX r, rS r), h1) else none
def hunT (L : Nat → Nat) (t : Nat) (r : RT) (h : Nat) : Option (RT × Nat) := match tokT L t 59 h with
  | none => none
  | some (x, h1) => if 1 ≤ x ∧ x ≤ 9 then some (((rQ r, rW r, rR r, rB r, x, rSn r, rWl r), rG r, rK r, rV r, rX r, rS r), h1) else none
def snoT (L : Nat → Nat) (t : Nat) (r : RT) (h : Nat) : Option (RT × Nat) := match tokT L t 59 h with
  | none => none
  | some (x, h1) => if x ≤ 1 ∧ rSn r < 9 then some (((rQ r, rW r, rR r, rB r, rBe r, rSn r + 1, rWl r), rG r, rK r, rV r, rX r, (fun a => if a = rSn r then x else rS r a)), h1) else none
def itT (L : Nat → Nat) (t : Nat) (r : RT) (h : Nat) : Option (RT × Nat) := if chT L t h = 98 then beaT L t r (h + 1) else if chT L t h = 104 then hunT L t r (h + 1) else if chT L t h = 114 then rowT L t r (h + 1) else if chT L t h = 115 then snoT L t r (h + 1) else if chT L t h = 119 then welT L t r (h + 1) else none
/-- what holds of what was read -/
def ROK (r : RT) : Prop := rR r ≤ 6 ∧ ((rR r = 0 ∧ rQ r = 0 ∧ rW r = 0) ∨ (1 ≤ rR r ∧ 1 ≤ rW r ∧ rW r ≤ 6 ∧ rQ r = rR r * rW r)) ∧ (∀ x, x < rQ r → rG r x ≤ 9) ∧ rB r ≤ 8 ∧ (∀ b, b < rB r → rK r b ≤ 3 ∧ rV r b ≤ 1 ∧ rX r b < rQ r ∧ rG r (rX r b) ≠ 9) ∧ (∀ a b, a < rB r → b < rB r → rX r a = rX r b → a = b) ∧ (rWl r = 36 ∨ rWl r < rQ r ∧ rG r (rWl r) ≠ 9) ∧ (1 ≤ rBe r ∧ rBe r ≤ 9) ∧ rSn r ≤ 9 ∧ ∀ k, k < rSn r → rS r k ≤ 1
theorem ROK.q36 {r : RT} (h : ROK r) : rQ r ≤ 36 := by
  obtain ⟨h1, h2, -⟩ := h
  rcases h2 with z | ⟨z1, z2, z3, z4⟩
  · omega
  · rw [z4]; exact Nat.le_trans (Nat.mul_le_mul h1 z3) (by decide)
theorem isF_iff {c : Nat} : isF c = true ↔ 48 ≤ c ∧ c ≤ 57 := by
  unfold isF
  simp
theorem digT_le {L : Nat → Nat} {t : Nat} : ∀ k h, digT L t k h ≤ k ∧ ∀ m, m < digT L t k h → isF (chT L t (h + m)) = true
  | 0, h => ⟨Nat.le_refl _, fun m hm => absurd hm (Nat.not_lt_zero m)⟩
  | k + 1, h => by
    unfold digT
    cases q : isF (chT L t h)
    · rw [if_neg (by decide)]
      exact ⟨Nat.zero_le _, fun m hm => absurd hm (Nat.not_lt_zero m)⟩
    · rw [if_pos rfl]
      obtain ⟨a1, a2⟩ := digT_le (L := L) (t := t) k (h + 1)
      refine ⟨by omega, fun m hm => ?_⟩
      cases m with
      | zero => exact q
      | succ m =>
        have := a2 m (by omega)
        rw [show h + (m + 1) = h + 1 + m by omega]
        exact this
theorem rowT_ok {L : Nat → Nat} {t h h' : Nat} {r r' : RT} (ok : ROK r) (e : rowT L t r h = some (r', h')) : ROK r' ∧ h < h' := by
  unfold rowT at e
  by_cases c : rR r < 6 ∧ 1 ≤ digT L t 6 h ∧ (rR r = 0 ∨ digT L t 6 h = rW r) ∧ chT L t (h + digT L t 6 h) = 59
  · rw [if_pos c] at e
    obtain ⟨c1, c2, c3, c4⟩ := c
    obtain ⟨o1, o2, o3, o4, o5, o6, o7, o8, o9, o10⟩ := ok
    obtain ⟨d1, d2⟩ := @digT_le L t 6 h
    have e2 := Option.some.inj e
    have e3 := (Prod.mk.inj e2).1
    have e4 := (Prod.mk.inj e2).2
    rw [← e3]
    generalize digT L t 6 h = n at c2 c3 c4 d1 d2 e4 ⊢
    refine ⟨⟨show rR r + 1 ≤ 6 by omega, Or.inr ⟨show 1 ≤ rR r + 1 by omega, c2, d1, ?_⟩, fun x hx => ?_, o4, fun b hb => ?_, o6, ?_, o8, o9, o10⟩, by omega⟩
    · show rQ r + n = (rR r + 1) * n
      rw [Nat.add_mul, Nat.one_mul]
      rcases o2 with ⟨z1, z2, z3⟩ | ⟨z1, z2, z3, z4⟩
      · rw [z1, z2, Nat.zero_mul]
      · rcases c3 with y | y
        · omega
        · rw [z4, y]
    · show (if x < rQ r then rG r x else chT L t (h + (x - rQ r)) - 48) ≤ 9
      have hx' : x < rQ r + n := hx
      by_cases q : x < rQ r
      · rw [if_pos q]; exact o3 x q
      · rw [if_neg q]
        have := isF_iff.mp (d2 (x - rQ r) (by omega))
        omega
    · obtain ⟨b1, b2, b3, b4⟩ := o5 b hb
      refine ⟨b1, b2, ?_, ?_⟩
      · show rX r b < rQ r + n
        omega
      · show (if rX r b < rQ r then rG r (rX r b) else _) ≠ 9
        rw [if_pos b3]; exact b4
    · show rWl r = 36 ∨ rWl r < rQ r + n ∧ (if rWl r < rQ r then rG r (rWl r) else chT L t (h + (rWl r - rQ r)) - 48) ≠ 9
      rcases o7 with z | ⟨z1, z2⟩
      · exact Or.inl z
      · exact Or.inr ⟨by omega, by rw [if_pos z1]; exact z2⟩
  · rw [if_neg c] at e; simp at e
theorem numT_gt {L : Nat → Nat} {t h a : Nat} (e : (numT L t h).1 = some a) : h < (numT L t h).2 ∧ a < 100 := by
  unfold numT at e ⊢
  cases q : isF (chT L t h)
  · rw [q, if_neg (by decide)] at e; simp at e
  · rw [q, if_pos rfl] at e
    rw [if_pos rfl]
    have f1 := isF_iff.mp q
    cases q2 : isF (chT L t (h + 1))
    · rw [q2, if_neg (by decide)] at e
      rw [if_neg (by decide)]
      have := Option.some.inj e
      exact ⟨show h < h + 1 by omega, by omega⟩
    · rw [q2, if_pos rfl] at e
      rw [if_pos rfl]
      have f2 := isF_iff.mp q2
      have := Option.some.inj e
      exact ⟨show h < h + 2 by omega, by omega⟩
theorem tokT_gt {L : Nat → Nat} {t c h a h' : Nat} (e : tokT L t c h = some (a, h')) : h < h' ∧ a < 100 ∧ (numT L t h).1 = some a ∧ chT L t (numT L t h).2 = c ∧ h' = (numT L t h).2 + 1 := by
  unfold tokT at e
  cases q : (numT L t h).1 with
  | none => rw [q] at e; simp at e
  | some b =>
    rw [q] at e
    have e' : (if chT L t (numT L t h).2 = c then some (b, (numT L t h).2 + 1) else none) = some (a, h') := e
    by_cases c1 : chT L t (numT L t h).2 = c
    · rw [if_pos c1] at e'
      have e2 := Prod.mk.inj (Option.some.inj e')
      have g := numT_gt q
      refine ⟨by omega, by rw [← e2.1]; exact g.2, by rw [e2.1], c1, e2.2.symm⟩
    · rw [if_neg c1] at e'; simp at e'
theorem itT_ok {L : Nat → Nat} {t h h' : Nat} {r r' : RT} (ok : ROK r) (e : itT L t r h = some (r', h')) : ROK r' ∧ h < h' := by
  unfold itT at e
  by_cases c1 : chT L t h = 98
  · rw [if_pos c1] at e
    unfold beaT at e
    cases q1 : tokT L t 44 (h + 1) with
    | none => rw [q1] at e; simp at e
    | some p1 =>
      obtain ⟨k, h1⟩ := p1
      have g1 := tokT_gt q1
      rw [q1] at e
      simp only at e
      cases q2 : tokT L t 44 h1 with
      | none => rw [q2] at e; simp at e
      | some p2 =>
        obtain ⟨v, h2⟩ := p2
        have g2 := tokT_gt q2
        rw [q2] at e
        simp only at e
        cases q3 : tokT L t 59 h2 with
        | none => rw [q3] at e; simp at e
        | some p3 =>
          obtain ⟨x, h3⟩ := p3
          have g3 := tokT_gt q3
          rw [q3] at e
          simp only at e
          by_cases c : k ≤ 3 ∧ v ≤ 1 ∧ rB r < 8 ∧ dryT r x = true ∧ memK (rX r) x (rB r) = false
          · rw [if_pos c] at e
            obtain ⟨d1, d2, d3, d4, d5⟩ := c
            have e2 := Prod.mk.inj (Option.some.inj e)
            rw [← e2.1, ← e2.2]
            obtain ⟨o1, o2, o3, o4, o5, o6, o7, o8, o9, o10⟩ := ok
            have dr : x < rQ r ∧ rG r x ≠ 9 := by
              unfold dryT at d4
              simp at d4
              exact d4
            have no : ∀ a, a < rB r → rX r a ≠ x := fun a ha z => by
              have := (memK_iff (W := rX r) (o := x) (rB r)).mpr ⟨a, ha, z⟩
              rw [d5] at this
              exact absurd this (by decide)
            refine ⟨⟨o1, o2, o3, show rB r + 1 ≤ 8 by omega, fun b hb => ?_, fun a b ha hb => ?_, o7, o8, o9, o10⟩, by omega⟩
            · have hb' : b < rB r + 1 := hb
              show (if b = rB r then k else rK r b) ≤ 3 ∧ (if b = rB r then v else rV r b) ≤ 1 ∧ (if b = rB r then x else rX r b) < rQ r ∧ rG r (if b = rB r then x else rX r b) ≠ 9
              by_cases q : b = rB r
              · rw [if_pos q, if_pos q, if_pos q]; exact ⟨d1, d2, dr.1, dr.2⟩
              · rw [if_neg q, if_neg q, if_neg q]; exact o5 b (by omega)
            · have ha' : a < rB r + 1 := ha
              have hb' : b < rB r + 1 := hb
              show (if a = rB r then x else rX r a) = (if b = rB r then x else rX r b) → a = b
              by_cases q : a = rB r
              · rw [if_pos q]
                by_cases q' : b = rB r
                · intro _; rw [q, q']
                · rw [if_neg q']; intro z; exact absurd z.symm (no b (by omega))
              · rw [if_neg q]
                by_cases q' : b = rB r
                · rw [if_pos q']; intro z; exact absurd z (no a (by omega))
                · rw [if_neg q']; exact o6 a b (by omega) (by omega)
          · rw [if_neg c] at e; simp at e
  · rw [if_neg c1] at e
    by_cases c2 : chT L t h = 104
    · rw [if_pos c2] at e
      unfold hunT at e
      cases q1 : tokT L t 59 (h + 1) with
      | none => rw [q1] at e; simp at e
      | some p1 =>
        obtain ⟨x, h1⟩ := p1
        have g1 := tokT_gt q1
        rw [q1] at e
        simp only at e
        by_cases c : 1 ≤ x ∧ x ≤ 9
        · rw [if_pos c] at e
          have e2 := Prod.mk.inj (Option.some.inj e)
          rw [← e2.1, ← e2.2]
          obtain ⟨o1, o2, o3, o4, o5, o6, o7, o8, o9, o10⟩ := ok
          exact ⟨⟨o1, o2, o3, o4, o5, o6, o7, c, o9, o10⟩, by omega⟩
        · rw [if_neg c] at e; simp at e
    · rw [if_neg c2] at e
      by_cases c3 : chT L t h = 114
      · rw [if_pos c3] at e
        have := rowT_ok ok e
        exact ⟨this.1, by omega⟩
      · rw [if_neg c3] at e
        by_cases c4 : chT L t h = 115
        · rw [if_pos c4] at e
          unfold snoT at e
          cases q1 : tokT L t 59 (h + 1) with
          | none => rw [q1] at e; simp at e
          | some p1 =>
            obtain ⟨x, h1⟩ := p1
            have g1 := tokT_gt q1
            rw [q1] at e
            simp only at e
            by_cases c : x ≤ 1 ∧ rSn r < 9
            · rw [if_pos c] at e
              have e2 := Prod.mk.inj (Option.some.inj e)
              rw [← e2.1, ← e2.2]
              obtain ⟨o1, o2, o3, o4, o5, o6, o7, o8, o9, o10⟩ := ok
              refine ⟨⟨o1, o2, o3, o4, o5, o6, o7, o8, show rSn r + 1 ≤ 9 by omega, fun k hk => ?_⟩, by omega⟩
              have hk' : k < rSn r + 1 := hk
              show (if k = rSn r then x else rS r k) ≤ 1
              by_cases q : k = rSn r
              · rw [if_pos q]; exact c.1
              · rw [if_neg q]; exact o10 k (by omega)
            · rw [if_neg c] at e; simp at e
        · rw [if_neg c4] at e
          by_cases c5 : chT L t h = 119
          · rw [if_pos c5] at e
            unfold welT at e
            cases q1 : tokT L t 59 (h + 1) with
            | none => rw [q1] at e; simp at e
            | some p1 =>
              obtain ⟨x, h1⟩ := p1
              have g1 := tokT_gt q1
              rw [q1] at e
              simp only at e
              by_cases c : dryT r x = true
              · rw [if_pos c] at e
                have e2 := Prod.mk.inj (Option.some.inj e)
                rw [← e2.1, ← e2.2]
                obtain ⟨o1, o2, o3, o4, o5, o6, o7, o8, o9, o10⟩ := ok
                refine ⟨⟨o1, o2, o3, o4, o5, o6, Or.inr ?_, o8, o9, o10⟩, by omega⟩
                unfold dryT at c
                simp at c
                exact c
              · rw [if_neg c] at e; simp at e
          · rw [if_neg c5] at e; simp at e
