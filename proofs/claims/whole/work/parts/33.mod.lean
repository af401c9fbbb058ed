/-! the reference's row as it is tried: what its methods answer of a state -/
def MS (σ : Sg) (Λ : LT) (s : ST) : Prop := LM σ Λ ∧ MM σ 157 0 Λ s ∧ LOK Λ ∧ SOK Λ s
theorem has_nI : ∀ e, e < 256 → ∀ b, b < 8 → decide (((nI e >>> (nI b &&& 31)) &&& (1 : Int32)) = (1 : Int32)) = e.testBit b := by decide +kernel
/-- the square next to one: 36: none -/
def nextW (S w x way : Nat) : Nat := if way = 0 then (if x < w then 36 else x - w) else if way = 1 then (if w - 1 ≤ x % w then 36 else x + 1) else if way = 2 then (if S ≤ x + w then 36 else x + w) else (if x % w = 0 then 36 else x - 1)
def nextN (Λ : LT) (x way : Nat) : Nat := nextW (lSq Λ) (lWd Λ) x way
theorem nextW_lt : ∀ w, w < 7 → ∀ r, r < 7 → ∀ x, x < r * w → ∀ way, way < 4 → nextW (r * w) w x way = 36 ∨ nextW (r * w) w x way < r * w := by decide +kernel
theorem east_lt : ∀ w, w < 7 → ∀ r, r < 7 → ∀ x, x < r * w → ¬ w - 1 ≤ x % w → x + 1 < r * w := by decide +kernel
theorem eastN {Λ : LT} (hΛ : LOK Λ) {x : Nat} (hx : x < lSq Λ) (h : ¬ lWd Λ - 1 ≤ x % lWd Λ) : x + 1 < lSq Λ := by
  obtain ⟨⟨w1, w2⟩, ⟨r, r1, r2, e⟩, -⟩ := hΛ
  rw [e] at hx ⊢
  exact east_lt _ (by omega) r (by omega) x hx h
theorem nextN_lt {Λ : LT} (hΛ : LOK Λ) {x way : Nat} (hx : x < lSq Λ) (hw : way < 4) : nextN Λ x way = 36 ∨ nextN Λ x way < lSq Λ := by
  obtain ⟨⟨w1, w2⟩, ⟨r, r1, r2, e⟩, -⟩ := hΛ
  unfold nextN
  rw [e] at hx ⊢
  exact nextW_lt _ (by omega) r (by omega) x hx way hw
section MOD
variable {σ : Sg} {Λ : LT} {s : ST}
theorem MS.nb8 (h : MS σ Λ s) : lNb Λ ≤ 8 := h.2.2.1.2.2.1.2
theorem MS.nb (h : MS σ Λ s) : σ 141 3 = nI (lNb Λ) := h.1.2.2.1
theorem MS.sq (h : MS σ Λ s) : σ 141 0 = nI (lSq Λ) := h.1.1
theorem MS.wd (h : MS σ Λ s) : σ 141 1 = nI (lWd Λ) := h.1.2.1
theorem MS.m (h : MS σ Λ s) {x : Nat} (hx : x < lSq Λ) : σ 142 x = nI (lM Λ x) := h.1.2.2.2.2.2.2.1 x hx
theorem MS.kd0 (h : MS σ Λ s) {b : Nat} (hb : b < lNb Λ) : σ 143 b = nI (lKd Λ b) := h.1.2.2.2.2.2.2.2.1 b hb
theorem MS.vl (h : MS σ Λ s) {b : Nat} (hb : b < lNb Λ) : σ 144 b = nI (lVl Λ b) := h.1.2.2.2.2.2.2.2.2.1 b hb
theorem MS.gr (h : MS σ Λ s) {x : Nat} (hx : x < lSq Λ) : σ 157 (1 + x) = nI (sG s x) := by
  have := h.2.1.2.1 x hx
  rwa [Nat.zero_add] at this
theorem MS.pl (h : MS σ Λ s) {b : Nat} (hb : b < lNb Λ) : σ 157 (37 + b) = nI (sP s b) := by
  have := h.2.1.2.2.1 b hb
  rwa [Nat.zero_add] at this
theorem MS.hu (h : MS σ Λ s) {b : Nat} (hb : b < lNb Λ) : σ 157 (45 + b) = nI (sH s b) := by
  have := h.2.1.2.2.2.1 b hb
  rwa [Nat.zero_add] at this
theorem MS.ew (h : MS σ Λ s) : σ 157 53 = nI (sE s) := h.2.1.2.2.2.2
theorem MS.sq36 (h : MS σ Λ s) : lSq Λ ≤ 36 := h.2.2.1.sq.2.1
theorem jm_has (σ : Sg) {e b : Nat} (he : e < 256) (hb : b < 8) : J_X8_has (nI e) (nI b) σ = some (if e.testBit b = true then 1 else 0) := by
  have z := has_nI e he b hb
  unfold J_X8_has
  by_cases h : e.testBit b = true
  · rw [h] at z
    rw [if_pos (of_decide_eq_true z), if_pos h]
  · have h2 : e.testBit b = false := by simpa using h
    rw [h2] at z
    rw [if_neg (of_decide_eq_false z), if_neg h]
theorem jm_kindOf (h : MS σ Λ s) {b : Nat} (hb : b < lNb Λ) : J_X8_kindOf (nI b) σ = some (nI (kdN Λ s b)) := by
  have h8 := h.nb8
  have h3 : b < 8 := by omega
  have hk := (h.2.2.1.2.2.2.2.2.2.2.1 b hb).1
  have he := h.2.2.2.2.2.2.2
  unfold kdN
  by_cases h1 : lKd Λ b = 2
  · have h4 : nI (lKd Λ b) = nI 2 := by rw [h1]
    simp (disch := omega) only [J_X8_kindOf, inb_nI, nI_clamp, h3, h.kd0 hb, li_2, h4, ↓reduceIte, h.ew, jm_has σ he h3, bd1_s, h1, true_and]
    by_cases h5 : (sE s).testBit b = true
    · simp only [h5, ↓reduceIte]
      rfl
    · simp only [h5, ↓reduceIte]
      rfl
  · have h4 : ¬ nI (lKd Λ b) = nI 2 := fun e => h1 ((nI_inj (by omega) (by omega)).mp e)
    simp (disch := omega) only [J_X8_kindOf, inb_nI, nI_clamp, h3, h.kd0 hb, li_2, h4, ↓reduceIte, h1, false_and]
theorem jm_onLoop (h : MS σ Λ s) {x : Nat} (hx : x < 36) : ∀ (k b j : Nat) (w : Int32), b + k = 9 → 9 < b + j → J_X8_onIt_b5 j (nI x) w (nI b) σ = some (if onK Λ s x k b = 8 then w else nI (onK Λ s x k b)) := by
  have h8 := h.nb8
  intro k
  induction k with
  | zero =>
    intro b j w hb hj
    obtain ⟨j, rfl⟩ : ∃ i, j = i + 1 := ⟨j - 1, by omega⟩
    have h1 : lNb Λ ≤ b := by omega
    simp (disch := omega) only [J_X8_onIt_b5, h.nb, nI_leI, h1, ↓reduceIte, onK]
  | succ k ih =>
    intro b j w hb hj
    obtain ⟨j, rfl⟩ : ∃ i, j = i + 1 := ⟨j - 1, by omega⟩
    by_cases h1 : lNb Λ ≤ b
    · have h2 : ¬ b < lNb Λ := by omega
      simp (disch := omega) only [J_X8_onIt_b5, h.nb, nI_leI, h1, ↓reduceIte, onK, h2]
    · have h2 : b < lNb Λ := by omega
      have h4 : 37 + b < 54 := by omega
      have p36 := SOK.p36 h.2.2.1 h.2.2.2 h2
      by_cases h5 : sP s b = x
      · have h6 : nI (sP s b) = nI x := by rw [h5]
        have h9 : onK Λ s x (k + 1) b = b := by
          unfold onK
          rw [if_pos h2, if_pos h5]
        rw [h9]
        simp (disch := omega) only [J_X8_onIt_b5, h.nb, li_37, li_1, nI_add, nI_leI, inb_nI, nI_clamp, h.pl h2, h1, h4, h6, ↓reduceIte]
        rw [ih (b + 1) j (nI b) (by omega) (by omega)]
        have h7 : onK Λ s x k (b + 1) = 8 := by
          rcases onK_le Λ s x k (b + 1) with e | ⟨e1, e2, e3⟩
          · exact e
          · have := h.2.2.2.2.2.1 _ b e1 h2 (by rw [e3, h5]) (by rw [e3]; omega)
            omega
        rw [if_pos h7, if_neg (by omega)]
      · have h6 : ¬ nI (sP s b) = nI x := fun e => h5 ((nI_inj (by omega) (by omega)).mp e)
        simp (disch := omega) only [J_X8_onIt_b5, h.nb, li_37, li_1, nI_add, nI_leI, inb_nI, nI_clamp, h.pl h2, h1, h4, h6, onK, h2, h5, ↓reduceIte]
        exact ih (b + 1) j w (by omega) (by omega)
theorem jm_onIt (h : MS σ Λ s) {x : Nat} (hx : x < 36) : J_X8_onIt (nI x) σ = some (onI (onN Λ s x)) := by
  unfold J_X8_onIt
  rw [li_0, jm_onLoop h hx 9 0 FU _ rfl (by rw [FU_eq]; omega)]
  unfold onI onN
  rfl
theorem plI_of {x : Nat} (h : x ≠ 36) : plI x = nI x := if_neg h
theorem jm_nextTo (h : MS σ Λ s) {x way : Nat} (hx : x < lSq Λ) (hw : way < 4) : J_X8_nextTo (nI x) (nI way) σ = some (plI (nextN Λ x way)) := by
  have h36 := h.sq36
  have hl := nextN_lt h.2.2.1 hx hw
  have hW := h.2.2.1.1
  have q1 : x % lWd Λ < 36 := Nat.lt_of_lt_of_le (Nat.mod_lt _ hW.1) (by omega)
  have n0 : ¬ lWd Λ = 0 := by omega
  rcases (show way = 0 ∨ way = 1 ∨ way = 2 ∨ way = 3 by omega) with rfl | rfl | rfl | rfl
  · simp (disch := omega) only [J_X8_nextTo, ← li_0, ↓reduceIte, h.wd, nI_ltI, nextN, nextW]
    by_cases h1 : x < lWd Λ
    · simp only [h1, ↓reduceIte, plI]
    · simp (disch := omega) only [h1, ↓reduceIte, nI_subI, plI]
      rw [if_neg (by omega)]
  · simp (disch := omega) only [J_X8_nextTo, ↓reduceIte, h.wd, nextN, nextW, li_0, li_1, nI_inj, n0, nI_subI, rmI_nI, nI_leI, nI_add, (by decide : ¬ (1 : Nat) = 0)]
    by_cases h1 : lWd Λ - 1 ≤ x % lWd Λ
    · simp only [h1, ↓reduceIte, plI]
    · have h2 := eastN h.2.2.1 hx h1
      simp only [h1, ↓reduceIte]
      rw [plI_of (by omega)]
  · simp (disch := omega) only [J_X8_nextTo, ↓reduceIte, h.wd, h.sq, nextN, nextW, li_0, li_1, li_2, nI_inj, nI_leI, nI_add, (by decide : ¬ (2 : Nat) = 0), (by decide : ¬ (2 : Nat) = 1)]
    by_cases h1 : lSq Λ ≤ x + lWd Λ
    · simp only [h1, ↓reduceIte, plI]
    · simp only [h1, ↓reduceIte]
      rw [plI_of (by omega)]
  · simp (disch := omega) only [J_X8_nextTo, ↓reduceIte, h.wd, nextN, nextW, li_0, li_1, li_2, nI_inj, n0, rmI_nI, nI_leI, (by decide : ¬ (3 : Nat) = 0), (by decide : ¬ (3 : Nat) = 1), (by decide : ¬ (3 : Nat) = 2)]
    by_cases h1 : x % lWd Λ = 0
    · simp only [h1, Nat.le_refl, ↓reduceIte, plI]
    · have h3 : ¬ x % lWd Λ ≤ 0 := by omega
      have h4 : 1 ≤ x := Nat.one_le_iff_ne_zero.mpr (fun e => h1 (by rw [e]; exact Nat.zero_mod _))
      simp (disch := omega) only [h1, h3, ↓reduceIte, nI_subI]
      rw [plI_of (by omega)]
end MOD
