/-! calls: fewest, stray; both sides -/
section CALL5
variable {σ : Sg} {D : Nat} {Λ : LT} {s : ST} {b o0 : Nat}
theorem allT_ok (hΛ : LOK Λ) (hs : SOK Λ s) (hb : b < lNb Λ) (hp : sP s b ≠ 36) (most : Nat) : TOK Λ s b (o0N s b) (allT Λ s b most) ∧ tN (allT Λ s b most) ≤ 72 := by
  obtain ⟨a1, a2, a3⟩ := outT_ok hΛ hs hb hp (most := most) 73 0 _ (ino0 hΛ hs hb hp)
  refine ⟨a1, ?_⟩
  have := @seenN_le (allT Λ s b most)
  have a2' : tN (allT Λ s b most) = seenN (allT Λ s b most) := a2
  omega
theorem allT_pre (hΛ : LOK Λ) (hs : SOK Λ s) (hb : b < lNb Λ) (hp : sP s b ≠ 36) (most : Nat) : agr (allT Λ s b most) (allT Λ s b 1000) ∧ (∀ j, j < tN (allT Λ s b most) → tF (allT Λ s b most) j ≤ most) ∧ ∀ j, tN (allT Λ s b most) ≤ j → j < tN (allT Λ s b 1000) → most < tF (allT Λ s b 1000) j :=
  outT_pre hΛ hs hb hp 73 0 _ (ino0 hΛ hs hb hp) (fun j _ => Nat.zero_le _)
theorem anc_agr {t t' : WT} {o f : Nat} (tk : TOK Λ s b o t) (h : agr t t') : ∀ k i, i < tN t → ancK t' f k i = ancK t f k i ∧ ancK t f k i < tN t
  | 0, i, hi => ⟨rfl, hi⟩
  | k + 1, i, hi => by
    obtain ⟨a1, a2, a3, a4⟩ := h.2 i hi
    unfold ancK
    rw [a2, a3]
    by_cases e : tF t i ≤ f
    · rw [if_pos e, if_pos e]; exact ⟨rfl, hi⟩
    · rw [if_neg e, if_neg e]
      by_cases i0 : i = 0
      · have := tk.2.2.1
        rw [← i0] at this
        omega
      · have := (tk.2.2.2.2.2.1 i (by omega) hi).1
        exact anc_agr tk h k (tQ t i) (by omega)
def cntK (t : WT) : Nat → Nat → Nat → Nat
  | 0, _, c => c
  | k + 1, x, c => cntK t k (x + 1) (if (fsK t x 73 0).isSome = true then c + 1 else c)
theorem jc_within {t t' : WT} {most : Nat} (hm : most ≤ 6) (h : CW Λ b σ t') (hn : tN t' ≤ 72) (hF : ∀ i, i < tN t' → tF t' i < 100) (p1 : agr t t') (p2 : ∀ j, j < tN t → tF t j ≤ most) (p3 : ∀ j, tN t ≤ j → j < tN t' → most < tF t' j) : ∀ (k x c j : Nat), x + k = 36 → k < j → J_X6_squaresWithin_b4 j (nI most) (nI c) (nI x) σ = some (nI (cntK t k x c)) := by
  intro k
  induction k with
  | zero =>
    intro x c j hx hj
    obtain ⟨j, rfl⟩ : ∃ i, j = i + 1 := ⟨j - 1, by omega⟩
    rw [J_X6_squaresWithin_b4, if_pos (show (36 : Int32) ≤ nI x from by rw [li_36, nI_leI (by omega) (by omega)]; omega)]
    rfl
  | succ k ih =>
    intro x c j hx hj
    obtain ⟨j, rfl⟩ : ∃ i, j = i + 1 := ⟨j - 1, by omega⟩
    have a1 : ∀ m : Nat, nI m + (1 : Int32) = nI (m + 1) := fun m => by rw [li_1, nI_add]
    have fi : J_X6_first (nI x) σ = some (match fsK t' x 73 0 with
        | some i => if 12 < tF t' i then -4 else nI i
        | none => -4) := jc_first h hn hF (by omega) 73 0 FU rfl (by rw [FU_eq]; decide)
    obtain ⟨z1, z2, z3⟩ := fs_pre (x := x) p1 p2 p3 hn
    rw [J_X6_squaresWithin_b4, if_neg (show ¬ (36 : Int32) ≤ nI x from by rw [li_36, nI_leI (by omega) (by omega)]; omega), fi, bd1_s, a1, a1, cntK]
    cases q : fsK t' x 73 0 with
    | none =>
      rw [z3 q, if_neg (show ¬ (none : Option Nat).isSome = true by decide)]
      show (if (-4 : Int32) = -4 then (J_X6_squaresWithin_b4 j (nI most) (nI c) (nI (x + 1)) σ) else _) = _
      rw [if_pos rfl]
      exact ih (x + 1) c j (by omega) (by omega)
    | some i =>
      obtain ⟨i1, i2, i3, i4⟩ := fsK_some 73 0 i q
      have fl := hF i i2
      show (if (if 12 < tF t' i then (-4 : Int32) else nI i) = -4 then (J_X6_squaresWithin_b4 j (nI most) (nI c) (nI (x + 1)) σ) else (bd1 (J_X6_drivesTo (if 12 < tF t' i then (-4 : Int32) else nI i) σ) fun r27 => (if nI most < r27 then (J_X6_squaresWithin_b4 j (nI most) (nI c) (nI (x + 1)) σ) else (J_X6_squaresWithin_b4 j (nI most) (nI (c + 1)) (nI (x + 1)) σ)))) = _
      by_cases e12 : 12 < tF t' i
      · rw [if_pos e12, if_pos rfl, z2 i q (by omega), if_neg (show ¬ (none : Option Nat).isSome = true by decide)]
        exact ih (x + 1) c j (by omega) (by omega)
      · rw [if_neg e12, if_neg (nI_nem4 (by omega)), jc_drivesTo h hn i2, bd1_s]
        by_cases e : most < tF t' i
        · rw [if_pos ((nI_ltI (by omega) (by omega)).mpr e), z2 i q e, if_neg (show ¬ (none : Option Nat).isSome = true by decide)]
          exact ih (x + 1) c j (by omega) (by omega)
        · rw [if_neg (fun z => e ((nI_ltI (by omega) (by omega)).mp z)), (z1 i q (by omega)).1, if_pos (show (some i).isSome = true from rfl)]
          exact ih (x + 1) (c + 1) j (by omega) (by omega)
theorem fs_isSome {t : WT} {x o : Nat} (tk : TOK Λ s b o t) (hn : tN t ≤ 72) (hx : x < 36) : (fsK t x 73 0).isSome = (memT t x || memT t (x + 36)) := by
  cases q : fsK t x 73 0 with
  | none =>
    have no := fsK_none 73 0 (by omega) q
    have m1 : memT t x = false := by
      cases y : memT t x
      · rfl
      · obtain ⟨i, z1, z2⟩ := memT_iff.mp y
        exact absurd (show onX (tW t i) = x by unfold onX; rw [z2]; omega) (no i (Nat.zero_le _) z1)
    have m2 : memT t (x + 36) = false := by
      cases y : memT t (x + 36)
      · rfl
      · obtain ⟨i, z1, z2⟩ := memT_iff.mp y
        exact absurd (show onX (tW t i) = x by unfold onX; rw [z2]; omega) (no i (Nat.zero_le _) z1)
    rw [m1, m2]
    rfl
  | some i =>
    obtain ⟨i1, i2, i3, i4⟩ := fsK_some 73 0 i q
    have w72 := (tk.2.2.2.1 i i2).1
    have e := o_of w72
    rw [i3] at e
    cases y : onE (tW t i)
    · rw [y, if_neg (by decide)] at e
      rw [memT_iff.mpr ⟨i, i2, show tW t i = x by omega⟩]
      rfl
    · rw [y, if_pos rfl] at e
      rw [memT_iff.mpr ⟨i, i2, e⟩, Bool.or_true]
      rfl
end CALL5
