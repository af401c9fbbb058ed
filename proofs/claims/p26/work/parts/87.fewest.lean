/-! calls: fewest, stray -/
def fsK (t : WT) (x : Nat) : Nat → Nat → Option Nat
  | 0, _ => none
  | k + 1, i => if i < tN t then (if onX (tW t i) = x then some i else fsK t x k (i + 1)) else none
theorem fsK_some {t : WT} {x : Nat} : ∀ (k i j : Nat), fsK t x k i = some j → i ≤ j ∧ j < tN t ∧ onX (tW t j) = x ∧ ∀ j', i ≤ j' → j' < j → onX (tW t j') ≠ x
  | 0, i, j, h => by simp [fsK] at h
  | k + 1, i, j, h => by
    unfold fsK at h
    by_cases e : i < tN t
    · rw [if_pos e] at h
      by_cases e2 : onX (tW t i) = x
      · rw [if_pos e2] at h
        have := Option.some.inj h
        rw [← this]
        exact ⟨Nat.le_refl _, e, e2, fun j' h1 h2 => by omega⟩
      · rw [if_neg e2] at h
        obtain ⟨a1, a2, a3, a4⟩ := fsK_some k (i + 1) j h
        refine ⟨by omega, a2, a3, fun j' h1 h2 => ?_⟩
        by_cases e3 : j' = i
        · rw [e3]; exact e2
        · exact a4 j' (by omega) h2
    · rw [if_neg e] at h; simp at h
theorem fsK_none {t : WT} {x : Nat} : ∀ (k i : Nat), tN t ≤ i + k → fsK t x k i = none → ∀ j, i ≤ j → j < tN t → onX (tW t j) ≠ x
  | 0, i, hk, h => fun j h1 h2 => by omega
  | k + 1, i, hk, h => by
    intro j h1 h2
    unfold fsK at h
    rw [if_pos (by omega)] at h
    by_cases e2 : onX (tW t i) = x
    · rw [if_pos e2] at h; simp at h
    · rw [if_neg e2] at h
      by_cases e3 : j = i
      · rw [e3]; exact e2
      · exact fsK_none k (i + 1) (by omega) h j (by omega) h2
theorem fsK_eq {t : WT} {x k i j : Nat} (hk : tN t ≤ i + k) (h1 : i ≤ j) (h2 : j < tN t) (h3 : onX (tW t j) = x) (h4 : ∀ j', i ≤ j' → j' < j → onX (tW t j') ≠ x) : fsK t x k i = some j := by
  cases q : fsK t x k i with
  | none => exact absurd h3 (fsK_none k i hk q j h1 h2)
  | some j2 =>
    obtain ⟨a1, a2, a3, a4⟩ := fsK_some k i j2 q
    by_cases e : j2 = j
    · rw [e]
    · by_cases e2 : j2 < j
      · exact absurd a3 (h4 j2 a1 e2)
      · exact absurd h3 (a4 j h1 (by omega))
theorem fsK_no {t : WT} {x k i : Nat} (h : ∀ j, i ≤ j → j < tN t → onX (tW t j) ≠ x) : fsK t x k i = none := by
  cases q : fsK t x k i with
  | none => rfl
  | some j =>
    obtain ⟨a1, a2, a3, a4⟩ := fsK_some k i j q
    exact absurd a3 (h j a1 a2)
/-- the first stand on a square, of the bounded search and of the unbounded one -/
theorem fs_pre {t t' : WT} {x most : Nat} (h : agr t t') (h1 : ∀ j, j < tN t → tF t j ≤ most) (h2 : ∀ j, tN t ≤ j → j < tN t' → most < tF t' j) (hn : tN t' ≤ 72) : (∀ i, fsK t' x 73 0 = some i → tF t' i ≤ most → fsK t x 73 0 = some i ∧ i < tN t) ∧ (∀ i, fsK t' x 73 0 = some i → most < tF t' i → fsK t x 73 0 = none) ∧ (fsK t' x 73 0 = none → fsK t x 73 0 = none) := by
  have hnn := h.1
  refine ⟨fun i hi hf => ?_, fun i hi hf => ?_, fun hi => ?_⟩
  · obtain ⟨a1, a2, a3, a4⟩ := fsK_some 73 0 i hi
    have il : i < tN t := by
      by_cases e : i < tN t
      · exact e
      · have := h2 i (by omega) a2; omega
    refine ⟨fsK_eq (by omega) a1 il (by rw [← (h.2 i il).1]; exact a3) (fun j' y1 y2 => ?_), il⟩
    rw [← (h.2 j' (by omega)).1]
    exact a4 j' y1 y2
  · obtain ⟨a1, a2, a3, a4⟩ := fsK_some 73 0 i hi
    refine fsK_no fun j y1 y2 z => ?_
    have e1 := (h.2 j y2).2.1
    have e2 := h1 j y2
    by_cases e : j < i
    · exact a4 j y1 e (by rw [(h.2 j y2).1]; exact z)
    · by_cases e3 : j = i
      · rw [e3] at e1 e2; omega
      · have il : i < tN t := by omega
        have := h1 i il
        have := (h.2 i il).2.1
        omega
  · refine fsK_no fun j y1 y2 z => ?_
    exact fsK_none 73 0 (by omega) hi j y1 (by omega) (by rw [(h.2 j y2).1]; exact z)
/-- the stand on the way to one, so many drives from the first -/
def ancK (t : WT) (f : Nat) : Nat → Nat → Nat
  | 0, i => i
  | k + 1, i => if tF t i ≤ f then i else ancK t f k (tQ t i)
section FEWEST
variable {σ : Sg} {D : Nat} {Λ : LT} {s : ST} {b o0 : Nat}
theorem jc_first {t : WT} (h : CW Λ b σ t) (hn : tN t ≤ 72) (hF : ∀ i, i < tN t → tF t i < 100) {x : Nat} (hx : x < 36) : ∀ (k i j : Nat), i + k = 73 → k < j → J_X6_first_b2 j (nI x) (nI i) σ = some (match fsK t x k i with
    | some i => if 12 < tF t i then -4 else nI i
    | none => -4) := by
  intro k
  induction k with
  | zero =>
    intro i j hi hj
    obtain ⟨j, rfl⟩ : ∃ i, j = i + 1 := ⟨j - 1, by omega⟩
    rw [J_X6_first_b2, h.1, if_pos ((nI_leI (by omega) (by omega)).mpr (by omega))]
    rfl
  | succ k ih =>
    intro i j hi hj
    obtain ⟨j, rfl⟩ : ∃ i, j = i + 1 := ⟨j - 1, by omega⟩
    have x36 : onX (tW t i) < 36 := Nat.mod_lt _ (by decide)
    rw [J_X6_first_b2, h.1, fsK]
    by_cases e : i < tN t
    · obtain ⟨d1, d2, d3⟩ := h.2.1 i e
      have i72 : inb (nI i) 72 = true := (inb_nI (by omega)).mpr (by omega)
      have fl := hF i e
      rw [if_neg (fun z => by have := (nI_leI (by omega) (by omega)).mp z; omega), if_neg (show ¬ (72 : Int32) ≤ nI i from by rw [li_72, nI_leI (by omega) (by omega)]; omega), if_pos i72, nI_clamp (by omega), d1, if_pos e]
      by_cases e2 : onX (tW t i) = x
      · rw [if_pos (by rw [e2]), if_pos i72, d3, if_pos e2]
        show (if (12 : Int32) < nI (tF t i) then some (-4) else some (nI i)) = some (if 12 < tF t i then -4 else nI i)
        by_cases e3 : 12 < tF t i
        · rw [if_pos (show (12 : Int32) < nI (tF t i) from by rw [li_12, nI_ltI (by omega) (by omega)]; exact e3), if_pos e3]
        · rw [if_neg (show ¬ (12 : Int32) < nI (tF t i) from by rw [li_12, nI_ltI (by omega) (by omega)]; exact e3), if_neg e3]
      · rw [if_neg (fun z => e2 ((nI_inj (by omega) (by omega)).mp z)), if_neg e2, show nI i + (1 : Int32) = nI (i + 1) from by rw [li_1, nI_add]]
        exact ih (i + 1) j (by omega) (by omega)
    · rw [if_pos ((nI_leI (by omega) (by omega)).mpr (by omega)), if_neg e]
theorem jc_drivesTo {t : WT} (h : CW Λ b σ t) (hn : tN t ≤ 72) {i : Nat} (hi : i < tN t) : J_X6_drivesTo (nI i) σ = some (nI (tF t i)) := by
  unfold J_X6_drivesTo
  rw [if_neg (nI_nlt0 (by omega)), if_neg (show ¬ (72 : Int32) ≤ nI i from by rw [li_72, nI_leI (by omega) (by omega)]; omega), if_pos ((inb_nI (by omega)).mpr (by omega)), nI_clamp (by omega), (h.2.1 i hi).2.2]
theorem jc_wayTo {t : WT} (tk : TOK Λ s b o0 t) (h : CW Λ b σ t) (hn : tN t ≤ 72) {f : Nat} (hf : f < 72) : ∀ (k i c j : Nat), i < tN t → tF t i ≤ k → c + k < 72 → k + 1 < j → J_X6_wayTo_b5 j (nI f) (nI i) (nI c) σ = some (if f < tF t i then nI (tB t (ancK t (f + 1) k i)) else -4) := by
  intro k
  induction k with
  | zero =>
    intro i c j hi hF hc hj
    obtain ⟨j, rfl⟩ : ∃ i, j = i + 1 := ⟨j - 1, by omega⟩
    obtain ⟨j, rfl⟩ : ∃ i, j = i + 1 := ⟨j - 1, by omega⟩
    have i72 : inb (nI i) 72 = true := (inb_nI (by omega)).mpr (by omega)
    have i0 : i = 0 := by
      by_cases e : i = 0
      · exact e
      · have := (tk.2.2.2.2.2.1 i (by omega) hi).2.1; omega
    rw [J_X6_wayTo_b5, if_neg (show ¬ (72 : Int32) ≤ nI c from by rw [li_72, nI_leI (by omega) (by omega)]; omega), if_neg (nI_nlt0 (by omega)), if_neg (show ¬ (72 : Int32) ≤ nI i from by rw [li_72, nI_leI (by omega) (by omega)]; omega), if_pos i72, nI_clamp (by omega), (h.2.1 i hi).2.2, show nI f + (1 : Int32) = nI (f + 1) from by rw [li_1, nI_add], if_neg (fun z => by have := (nI_inj (by omega) (by omega)).mp z; omega), if_pos i72, i0, h.2.2.1.1, show nI c + (1 : Int32) = nI (c + 1) from by rw [li_1, nI_add], J_X6_wayTo_b5, if_neg (show ¬ f < tF t 0 by rw [i0] at hF; omega)]
    by_cases e : (72 : Int32) ≤ nI (c + 1)
    · rw [if_pos e]
    · rw [if_neg e, if_pos (by decide)]
  | succ k ih =>
    intro i c j hi hF hc hj
    obtain ⟨j, rfl⟩ : ∃ i, j = i + 1 := ⟨j - 1, by omega⟩
    have i72 : inb (nI i) 72 = true := (inb_nI (by omega)).mpr (by omega)
    have fl := tk.F_le i hi
    rw [J_X6_wayTo_b5, if_neg (show ¬ (72 : Int32) ≤ nI c from by rw [li_72, nI_leI (by omega) (by omega)]; omega), if_neg (nI_nlt0 (by omega)), if_neg (show ¬ (72 : Int32) ≤ nI i from by rw [li_72, nI_leI (by omega) (by omega)]; omega), if_pos i72, nI_clamp (by omega), (h.2.1 i hi).2.2, show nI f + (1 : Int32) = nI (f + 1) from by rw [li_1, nI_add], show nI c + (1 : Int32) = nI (c + 1) from by rw [li_1, nI_add]]
    by_cases e : tF t i = f + 1
    · have i1 : 1 ≤ i := by omega
      rw [if_pos (by rw [e]), if_pos i72, (h.2.2.2.1 i i1 hi).2, if_pos (by omega), ancK, if_pos (by omega)]
    · rw [if_neg (fun z => e ((nI_inj (by omega) (by omega)).mp z)), if_pos i72]
      by_cases i0 : i = 0
      · have f0 := tk.2.2.1
        rw [i0] at e ⊢
        obtain ⟨j, rfl⟩ : ∃ i, j = i + 1 := ⟨j - 1, by omega⟩
        rw [h.2.2.1.1, J_X6_wayTo_b5, if_neg (show ¬ f < tF t 0 by omega)]
        by_cases e2 : (72 : Int32) ≤ nI (c + 1)
        · rw [if_pos e2]
        · rw [if_neg e2, if_pos (by decide)]
      · obtain ⟨q1, q2, q3⟩ := tk.2.2.2.2.2.1 i (by omega) hi
        rw [(h.2.2.2.1 i (by omega) hi).1, ih (tQ t i) (c + 1) j (by omega) (by omega) (by omega) (by omega)]
        by_cases e2 : f < tF t i
        · rw [if_pos (by omega), if_pos e2, ancK, if_neg (by omega)]
        · rw [if_neg (by omega), if_neg e2]
theorem jc_wayFar {t : WT} (tk : TOK Λ s b o0 t) (h : CW Λ b σ t) (hn : tN t ≤ 72) {a : Int32} (ha : nI 72 ≤ a) : ∀ (k i c j : Nat), i < tN t → tF t i ≤ k → c + k < 72 → k + 1 < j → J_X6_wayTo_b5 j a (nI i) (nI c) σ = some (-4) := by
  have ne : ∀ f, f < 72 → ¬ nI f = a + 1 := fun f hf z => by
    have e : a = nI f - 1 := by rw [z]; exact (Int32.add_sub_cancel _ _).symm
    by_cases f0 : f = 0
    · rw [f0] at e
      rw [e] at ha
      exact absurd ha (by decide)
    · rw [li_1, nI_subI (by omega)] at e
      rw [e, nI_leI (by omega) (by omega)] at ha
      omega
  intro k
  induction k with
  | zero =>
    intro i c j hi hF hc hj
    obtain ⟨j, rfl⟩ : ∃ i, j = i + 1 := ⟨j - 1, by omega⟩
    obtain ⟨j, rfl⟩ : ∃ i, j = i + 1 := ⟨j - 1, by omega⟩
    have i72 : inb (nI i) 72 = true := (inb_nI (by omega)).mpr (by omega)
    have i0 : i = 0 := by
      by_cases e : i = 0
      · exact e
      · have := (tk.2.2.2.2.2.1 i (by omega) hi).2.1; omega
    rw [J_X6_wayTo_b5, if_neg (show ¬ (72 : Int32) ≤ nI c from by rw [li_72, nI_leI (by omega) (by omega)]; omega), if_neg (nI_nlt0 (by omega)), if_neg (show ¬ (72 : Int32) ≤ nI i from by rw [li_72, nI_leI (by omega) (by omega)]; omega), if_pos i72, nI_clamp (by omega), (h.2.1 i hi).2.2, if_neg (ne _ (by omega)), if_pos i72, i0, h.2.2.1.1, show nI c + (1 : Int32) = nI (c + 1) from by rw [li_1, nI_add], J_X6_wayTo_b5]
    by_cases e : (72 : Int32) ≤ nI (c + 1)
    · rw [if_pos e]
    · rw [if_neg e, if_pos (by decide)]
  | succ k ih =>
    intro i c j hi hF hc hj
    obtain ⟨j, rfl⟩ : ∃ i, j = i + 1 := ⟨j - 1, by omega⟩
    have i72 : inb (nI i) 72 = true := (inb_nI (by omega)).mpr (by omega)
    have fl := tk.F_le i hi
    rw [J_X6_wayTo_b5, if_neg (show ¬ (72 : Int32) ≤ nI c from by rw [li_72, nI_leI (by omega) (by omega)]; omega), if_neg (nI_nlt0 (by omega)), if_neg (show ¬ (72 : Int32) ≤ nI i from by rw [li_72, nI_leI (by omega) (by omega)]; omega), if_pos i72, nI_clamp (by omega), (h.2.1 i hi).2.2, if_neg (ne _ (by omega)), if_pos i72, show nI c + (1 : Int32) = nI (c + 1) from by rw [li_1, nI_add]]
    by_cases i0 : i = 0
    · rw [i0]
      obtain ⟨j, rfl⟩ : ∃ i, j = i + 1 := ⟨j - 1, by omega⟩
      rw [h.2.2.1.1, J_X6_wayTo_b5]
      by_cases e2 : (72 : Int32) ≤ nI (c + 1)
      · rw [if_pos e2]
      · rw [if_neg e2, if_pos (by decide)]
    · obtain ⟨q1, q2, q3⟩ := tk.2.2.2.2.2.1 i (by omega) hi
      rw [(h.2.2.2.1 i (by omega) hi).1]
      exact ih (tQ t i) (c + 1) j (by omega) (by omega) (by omega) (by omega)
/-- what the model then says of a stand -/
def few59 (t : WT) (a : Int32) (o : Option Nat) : Int32 := match o with
  | none => -4
  | some i => if a < 0 then nI (tF t i) else if a < nI (tF t i) then nI (tB t (ancK t (a.toNatClampNeg + 1) 72 i)) else -4
end FEWEST
