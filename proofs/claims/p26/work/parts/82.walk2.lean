/-! the stands in their order: what is kept, what a bound leaves -/
def agr (t t' : WT) : Prop := tN t ≤ tN t' ∧ ∀ j, j < tN t → tW t' j = tW t j ∧ tF t' j = tF t j ∧ tQ t' j = tQ t j ∧ tB t' j = tB t j
theorem agr.rf {t : WT} : agr t t := ⟨Nat.le_refl _, fun _ _ => ⟨rfl, rfl, rfl, rfl⟩⟩
theorem agr.tr {t t' t'' : WT} (h : agr t t') (h' : agr t' t'') : agr t t'' := by
  refine ⟨Nat.le_trans h.1 h'.1, fun j hj => ?_⟩
  obtain ⟨a1, a2, a3, a4⟩ := h.2 j hj
  obtain ⟨b1, b2, b3, b4⟩ := h'.2 j (Nat.lt_of_lt_of_le hj h.1)
  exact ⟨b1.trans a1, b2.trans a2, b3.trans a3, b4.trans a4⟩
section WALK2
variable {Λ : LT} {s : ST} {b o0 : Nat}
def INV (Λ : LT) (s : ST) (b o0 i : Nat) (t : WT) : Prop := TOK Λ s b o0 t ∧ tN t = seenN t ∧ i < tN t ∧ ∀ j, j < tN t → tF t j ≤ tF t i + 1
theorem TOK.F_le {t : WT} (h : TOK Λ s b o0 t) : ∀ i, i < tN t → tF t i ≤ i := by
  obtain ⟨h1, h2, h3, h4, h5, h6, h7⟩ := h
  intro i
  induction i using Nat.strongRecOn with
  | _ i ih =>
    intro hi
    by_cases e : i = 0
    · rw [e, h3]; exact Nat.le_refl _
    · obtain ⟨q1, q2, q3⟩ := h6 i (by omega) hi
      have := ih _ q1 (by omega)
      omega
theorem app_ok {t : WT} {i o w : Nat} (h : INV Λ s b o0 i t) (ho : o < 72) (hf : freeX Λ s b (onX o)) (hk : lKd Λ b ≠ 2 → onE o = onE o0) (hm : memT t o = false) (hw : w < 4) : INV Λ s b o0 i (appT t o (tF t i + 1) i w) ∧ agr t (appT t o (tF t i + 1) i w) ∧ ∀ j, tN t ≤ j → j < tN (appT t o (tF t i + 1) i w) → tF (appT t o (tF t i + 1) i w) j = tF t i + 1 := by
  obtain ⟨⟨h1, h2, h3, h4, h5, h6, h7⟩, hn, hi, hb⟩ := h
  have n1 : tN (appT t o (tF t i + 1) i w) = tN t + 1 := rfl
  obtain ⟨e1, e2, e3, e4⟩ := @app_eq t o (tF t i + 1) i w
  have lt : ∀ j, j < tN t → tW (appT t o (tF t i + 1) i w) j = tW t j ∧ tF (appT t o (tF t i + 1) i w) j = tF t j ∧ tQ (appT t o (tF t i + 1) i w) j = tQ t j ∧ tB (appT t o (tF t i + 1) i w) j = tB t j := fun j hj => app_lt hj
  have no : ∀ j, j < tN t → tW t j ≠ o := fun j hj z => by
    have : memT t o = true := memT_iff.mpr ⟨j, hj, z⟩
    rw [hm] at this
    exact absurd this (by decide)
  have hs := seenN_app (f := tF t i + 1) (q := i) (w := w) ho hm
  generalize appT t o (tF t i + 1) i w = t' at n1 e1 e2 e3 e4 lt hs ⊢
  refine ⟨⟨⟨by omega, ?_, ?_, fun j hj => ?_, fun j k hj hk2 => ?_, fun j hj1 hj => ?_, fun j k hjk hk2 => ?_⟩, by omega, by omega, fun j hj => ?_⟩, ⟨by omega, lt⟩, fun j hj1 hj2 => ?_⟩
  · rw [(lt 0 (by omega)).1]; exact h2
  · rw [(lt 0 (by omega)).2.1]; exact h3
  · by_cases e : j = tN t
    · rw [e, e1]; exact ⟨ho, hf, hk⟩
    · rw [(lt j (by omega)).1]; exact h4 j (by omega)
  · by_cases e : j = tN t
    · by_cases f : k = tN t
      · intro _; omega
      · rw [e, e1, (lt k (by omega)).1]; intro z; exact absurd z.symm (no k (by omega))
    · rw [(lt j (by omega)).1]
      by_cases f : k = tN t
      · rw [f, e1]; intro z; exact absurd z (no j (by omega))
      · rw [(lt k (by omega)).1]; exact h5 j k (by omega) (by omega)
  · by_cases e : j = tN t
    · rw [e, e2, e3, e4, (lt i hi).2.1]; exact ⟨by omega, rfl, hw⟩
    · obtain ⟨q1, q2, q3⟩ := h6 j hj1 (by omega)
      rw [(lt j (by omega)).2.1, (lt j (by omega)).2.2.1, (lt j (by omega)).2.2.2, (lt (tQ t j) (by omega)).2.1]
      exact ⟨q1, q2, q3⟩
  · by_cases f : k = tN t
    · rw [f, e2]
      by_cases e : j = tN t
      · rw [e, e2]; exact Nat.le_refl _
      · rw [(lt j (by omega)).2.1]; exact hb j (by omega)
    · rw [(lt j (by omega)).2.1, (lt k (by omega)).2.1]; exact h7 j k hjk (by omega)
  · rw [(lt i hi).2.1]
    by_cases e : j = tN t
    · rw [e, e2]; exact Nat.le_refl _
    · rw [(lt j (by omega)).2.1]; exact hb j (by omega)
  · rw [show j = tN t by omega, e2]
theorem nxT_ok (hΛ : LOK Λ) (hs : SOK Λ s) (hb : b < lNb Λ) (hp : sP s b ≠ 36) {t : WT} {i w : Nat} (h : INV Λ s b o0 i t) (hw : w < 4) : INV Λ s b o0 i (nxT Λ s b i w t) ∧ agr t (nxT Λ s b i w t) ∧ ∀ j, tN t ≤ j → j < tN (nxT Λ s b i w t) → tF (nxT Λ s b i w t) j = tF t i + 1 := by
  unfold nxT
  have hi := h.1.2.2.2.1 i h.2.2.1
  cases q : nbT Λ s b (tW t i) w with
  | none => exact ⟨h, agr.rf, fun j h1 h2 => absurd h2 (by show ¬ j < tN t; omega)⟩
  | some o =>
    obtain ⟨o1, o2, o3, o4, o5, o6, o7⟩ := nbT_ok hΛ hs hb hp hi.2.1 hw q
    show INV Λ s b o0 i (addT t o (tF t i + 1) i w) ∧ agr t (addT t o (tF t i + 1) i w) ∧ ∀ j, tN t ≤ j → j < tN (addT t o (tF t i + 1) i w) → tF (addT t o (tF t i + 1) i w) j = tF t i + 1
    unfold addT
    cases m : memT t o with
    | true =>
      rw [if_pos rfl]
      exact ⟨h, agr.rf, fun j h1 h2 => absurd h2 (by omega)⟩
    | false =>
      rw [if_neg (by decide)]
      exact app_ok h o1 o2 (fun z => (o7 z).trans (hi.2.2 z)) m hw
theorem wayT_ok (hΛ : LOK Λ) (hs : SOK Λ s) (hb : b < lNb Λ) (hp : sP s b ≠ 36) {i : Nat} : ∀ (k w : Nat) (t : WT), w + k = 4 → INV Λ s b o0 i t → INV Λ s b o0 i (wayT Λ s b i k w t) ∧ agr t (wayT Λ s b i k w t) ∧ ∀ j, tN t ≤ j → j < tN (wayT Λ s b i k w t) → tF (wayT Λ s b i k w t) j = tF t i + 1
  | 0, w, t, _, h => ⟨h, agr.rf, fun j h1 h2 => absurd h2 (by show ¬ j < tN t; omega)⟩
  | k + 1, w, t, hk, h => by
    obtain ⟨a1, a2, a3⟩ := nxT_ok hΛ hs hb hp h (show w < 4 by omega)
    obtain ⟨b1, b2, b3⟩ := wayT_ok hΛ hs hb hp k (w + 1) (nxT Λ s b i w t) (by omega) a1
    refine ⟨b1, a2.tr b2, fun j h1 h2 => ?_⟩
    show tF (wayT Λ s b i k (w + 1) (nxT Λ s b i w t)) j = _
    by_cases e : j < tN (nxT Λ s b i w t)
    · rw [(b2.2 j e).2.1]; exact a3 j h1 e
    · rw [b3 j (by omega) h2, (a2.2 i h.2.2.1).2.1]
/-- what holds as the next stand comes -/
def INO (Λ : LT) (s : ST) (b o0 i : Nat) (t : WT) : Prop := TOK Λ s b o0 t ∧ tN t = seenN t ∧ (i < tN t → ∀ j, j < tN t → tF t j ≤ tF t i + 1)
theorem INO.nx {t t' : WT} {i : Nat} (h : INV Λ s b o0 i t) : INO Λ s b o0 (i + 1) t := by
  obtain ⟨h1, h2, h3, h4⟩ := h
  refine ⟨h1, h2, fun hi j hj => ?_⟩
  have := h4 j hj
  have := h1.2.2.2.2.2.2 i (i + 1) (by omega) hi
  omega
theorem INO.nx' {t : WT} {i : Nat} (h : INO Λ s b o0 i t) (hi : i < tN t) : INO Λ s b o0 (i + 1) t := INO.nx (t' := t) ⟨h.1, h.2.1, hi, h.2.2 hi⟩
theorem outT_ok (hΛ : LOK Λ) (hs : SOK Λ s) (hb : b < lNb Λ) (hp : sP s b ≠ 36) {most : Nat} : ∀ (k i : Nat) (t : WT), INO Λ s b o0 i t → TOK Λ s b o0 (outT Λ s b most k i t) ∧ tN (outT Λ s b most k i t) = seenN (outT Λ s b most k i t) ∧ agr t (outT Λ s b most k i t)
  | 0, i, t, h => ⟨h.1, h.2.1, agr.rf⟩
  | k + 1, i, t, h => by
    unfold outT
    by_cases e : tN t ≤ i
    · rw [if_pos e]; exact ⟨h.1, h.2.1, agr.rf⟩
    · rw [if_neg e]
      have hv : INV Λ s b o0 i t := ⟨h.1, h.2.1, by omega, h.2.2 (by omega)⟩
      by_cases e2 : most ≤ tF t i
      · rw [if_pos e2]
        exact outT_ok hΛ hs hb hp k (i + 1) t (h.nx' (by omega))
      · rw [if_neg e2]
        obtain ⟨a1, a2, a3⟩ := wayT_ok hΛ hs hb hp 4 0 t rfl hv
        obtain ⟨b1, b2, b3⟩ := outT_ok hΛ hs hb hp (most := most) k (i + 1) _ (INO.nx (t' := t) a1)
        exact ⟨b1, b2, a2.tr b3⟩
theorem outT_stop {most : Nat} : ∀ (k i : Nat) (t : WT), (∀ j, i ≤ j → j < tN t → most ≤ tF t j) → outT Λ s b most k i t = t
  | 0, i, t, h => rfl
  | k + 1, i, t, h => by
    unfold outT
    by_cases e : tN t ≤ i
    · rw [if_pos e]
    · rw [if_neg e, if_pos (h i (Nat.le_refl _) (by omega))]
      exact outT_stop k (i + 1) t (fun j h1 h2 => h j (by omega) h2)
theorem outT_big (hΛ : LOK Λ) (hs : SOK Λ s) (hb : b < lNb Λ) (hp : sP s b ≠ 36) {most big : Nat} : ∀ (k i : Nat) (t : WT), INO Λ s b o0 i t → (∀ j, i ≤ j → j < tN t → most ≤ tF t j) → ∀ j, tN t ≤ j → j < tN (outT Λ s b big k i t) → most < tF (outT Λ s b big k i t) j
  | 0, i, t, h, hm => fun j h1 h2 => absurd h2 (by show ¬ j < tN t; omega)
  | k + 1, i, t, h, hm => by
    intro j h1
    unfold outT
    by_cases e : tN t ≤ i
    · rw [if_pos e]; intro h2; omega
    · rw [if_neg e]
      have hv : INV Λ s b o0 i t := ⟨h.1, h.2.1, by omega, h.2.2 (by omega)⟩
      by_cases e2 : big ≤ tF t i
      · rw [if_pos e2]
        intro h2
        exact outT_big hΛ hs hb hp k (i + 1) t (h.nx' (by omega)) (fun j h1 h2 => hm j (by omega) h2) j h1 h2
      · rw [if_neg e2]
        intro h2
        obtain ⟨a1, a2, a3⟩ := wayT_ok hΛ hs hb hp 4 0 t rfl hv
        have hmi := hm i (Nat.le_refl _) (by omega)
        have ino := INO.nx (t' := t) a1
        by_cases e3 : j < tN (wayT Λ s b i 4 0 t)
        · have ag := (outT_ok hΛ hs hb hp (most := big) k (i + 1) _ ino).2.2
          rw [(ag.2 j e3).2.1, a3 j h1 e3]
          omega
        · refine outT_big hΛ hs hb hp (most := most) k (i + 1) _ ino (fun j' y1 y2 => ?_) j (by omega) h2
          by_cases e4 : j' < tN t
          · rw [(a2.2 j' e4).2.1]; exact hm j' (by omega) e4
          · rw [a3 j' (by omega) y2]; omega
/-- the bounded search finds the beginning of the unbounded one -/
theorem outT_pre (hΛ : LOK Λ) (hs : SOK Λ s) (hb : b < lNb Λ) (hp : sP s b ≠ 36) {most : Nat} : ∀ (k i : Nat) (t : WT), INO Λ s b o0 i t → (∀ j, j < tN t → tF t j ≤ most) → agr (outT Λ s b most k i t) (outT Λ s b 1000 k i t) ∧ (∀ j, j < tN (outT Λ s b most k i t) → tF (outT Λ s b most k i t) j ≤ most) ∧ ∀ j, tN (outT Λ s b most k i t) ≤ j → j < tN (outT Λ s b 1000 k i t) → most < tF (outT Λ s b 1000 k i t) j
  | 0, i, t, h, hm => ⟨agr.rf, hm, fun j h1 h2 => absurd h2 (by
      have h1' : tN t ≤ j := h1
      show ¬ j < tN t
      omega)⟩
  | k + 1, i, t, h, hm => by
    by_cases e : tN t ≤ i
    · have e1 : ∀ m, outT Λ s b m (k + 1) i t = t := fun m => by unfold outT; rw [if_pos e]
      rw [e1, e1]
      exact ⟨agr.rf, hm, fun j h1 h2 => absurd h2 (by omega)⟩
    · have hv : INV Λ s b o0 i t := ⟨h.1, h.2.1, by omega, h.2.2 (by omega)⟩
      have fl := h.1.F_le i (by omega)
      have sl := @seenN_le t
      have hs2 := h.2.1
      by_cases e2 : most ≤ tF t i
      · have st : outT Λ s b most (k + 1) i t = t := outT_stop (k + 1) i t (fun j h1 h2 => Nat.le_trans e2 (h.1.2.2.2.2.2.2 i j h1 h2))
        rw [st]
        exact ⟨(outT_ok hΛ hs hb hp (most := 1000) (k + 1) i t h).2.2, hm, outT_big hΛ hs hb hp (k + 1) i t h (fun j h1 h2 => Nat.le_trans e2 (h.1.2.2.2.2.2.2 i j h1 h2))⟩
      · have s1 : outT Λ s b most (k + 1) i t = outT Λ s b most k (i + 1) (wayT Λ s b i 4 0 t) := by
          rw [outT, if_neg e, if_neg e2]
        have s2 : outT Λ s b 1000 (k + 1) i t = outT Λ s b 1000 k (i + 1) (wayT Λ s b i 4 0 t) := by
          rw [outT, if_neg e, if_neg (by omega)]
        obtain ⟨a1, a2, a3⟩ := wayT_ok hΛ hs hb hp 4 0 t rfl hv
        rw [s1, s2]
        refine outT_pre hΛ hs hb hp k (i + 1) _ (INO.nx (t' := t) a1) (fun j hj => ?_)
        by_cases e4 : j < tN t
        · rw [(a2.2 j e4).2.1]; exact hm j e4
        · rw [a3 j (by omega) hj]; omega
end WALK2
