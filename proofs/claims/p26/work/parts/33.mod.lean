theorem has_nI : ∀ e, e < 256 → ∀ b, b < 8 → decide (((nI e >>> (nI b &&& 31)) &&& (1 : Int32)) = (1 : Int32)) = e.testBit b := by decide +kernel
/-- the square next to one: 36: none -/
def nextW (S w x way : Nat) : Nat := if way = 0 then (if x < w then 36 else x - w) else if way = 1 then (if w - 1 ≤ x % w then 36 else x + 1) else if way = 2 then (if S ≤ x + w then 36 else x + w) else (if x % w = 0 then 36 else x - 1)
def nextN (Λ : LT) (x way : Nat) : Nat := nextW (lSq Λ) (lWd Λ) x way
theorem nextW_lt : ∀ w, w < 7 → ∀ r, r < 7 → ∀ x, x < r * w → ∀ way, way < 4 → nextW (r * w) w x way = 36 ∨ nextW (r * w) w x way < r * w := by decide +kernel
theorem east_lt : ∀ w, w < 7 → ∀ r, r < 7 → ∀ x, x < r * w → ¬ w - 1 ≤ x % w → x + 1 < r * w := by decide +kernel
theorem eastN {Λ : LT} (hΛ : LOK Λ) {x : Nat} (hx : x < lSq Λ) (h : ¬ lWd Λ - 1 ≤ x % lWd Λ) : x + 1 < lSq Λ := by
  obtain ⟨⟨w1, w2⟩, ⟨r, r1, r2, e⟩, -⟩ := hΛ
  rw [e] at hx ⊢
  exact east_lt _ (by omega) r (by omega) x hx h
theorem nextN_lt {Λ : LT} (hΛ : LOK Λ) {x way : Nat} (hx : x < lSq Λ) (hw : way < 4) : nextN Λ x way = 36 ∨ nextN Λ x way < lSq Λ := by
  obtain ⟨⟨w1, w2⟩, ⟨r, r1, r2, e⟩, -⟩ := hΛ
  unfold nextN
  rw [e] at hx ⊢
  exact nextW_lt _ (by omega) r (by omega) x hx way hw
section MOD
variable {σ : Sg} {Λ : LT} {s : ST}
theorem plI_of {x : Nat} (h : x ≠ 36) : plI x = nI x := if_neg h
end MOD
