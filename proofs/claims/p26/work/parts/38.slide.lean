/-! a ram goes on -/
def dstW (S w x way : Nat) : Nat := if way = 0 then x / w else if way = 1 then w - 1 - x % w else if way = 2 then (S - 1 - x) / w else x % w
theorem dstW_next : ∀ w, w < 7 → ∀ r, r < 7 → ∀ x, x < r * w → ∀ way, way < 4 → (nextW (r * w) w x way = 36 ∨ dstW (r * w) w (nextW (r * w) w x way) way + 1 = dstW (r * w) w x way) ∧ dstW (r * w) w x way ≤ 5 := by decide +kernel
def dstN (Λ : LT) (x way : Nat) : Nat := dstW (lSq Λ) (lWd Λ) x way
theorem dstN_next {Λ : LT} (hΛ : LOK Λ) {x way : Nat} (hx : x < lSq Λ) (hw : way < 4) : (nextN Λ x way = 36 ∨ dstN Λ (nextN Λ x way) way + 1 = dstN Λ x way) ∧ dstN Λ x way ≤ 5 := by
  obtain ⟨⟨w1, w2⟩, ⟨r, r1, r2, e⟩, -⟩ := hΛ
  unfold nextN dstN
  rw [e] at hx ⊢
  exact dstW_next _ (by omega) r (by omega) x hx way hw
def slideN (Λ : LT) (s : ST) (b way : Nat) (mt : Bool) : Nat → Nat → Nat
  | 0, to => to
  | k + 1, to => if onN Λ s to = 8 ∧ sG s to = 0 then (if stepN Λ s b to way mt = 36 then to else slideN Λ s b way mt k (stepN Λ s b to way mt)) else to
theorem up_up {σ : Sg} {c k : Nat} {v w : Int32} : up (up σ c k v) c k w = up σ c k w := by
  funext a j
  unfold up
  split <;> rfl
theorem up_id {σ : Sg} {c k : Nat} : up σ c k (σ c k) = σ := by
  funext a j
  unfold up
  split
  · rename_i h
    rw [h.1, h.2]
  · rfl
section SLIDE
variable {σ : Sg} {c : Nat} {Λ : LT} {s : ST}
theorem stepN_lt (hΛ : LOK Λ) {b x way : Nat} (hx : x < lSq Λ) (hw : way < 4) (mt : Bool) : stepN Λ s b x way mt = 36 ∨ (stepN Λ s b x way mt = nextN Λ x way ∧ stepN Λ s b x way mt < lSq Λ) := by
  unfold stepN
  by_cases e0 : nextN Λ x way = 36
  · rw [if_pos e0]; exact Or.inl rfl
  · rw [if_neg e0]
    split
    · refine Or.inr ⟨rfl, ?_⟩
      rcases nextN_lt hΛ hx hw with z | z <;> omega
    · exact Or.inl rfl
end SLIDE
