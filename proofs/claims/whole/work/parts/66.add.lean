/-! a day is written down, both sides -/
section ADD
variable {σ σ' : Sg} {Λ : LT} {s : ST} {D n o q : Nat} {P K : Nat → ST} {T : Nat → Nat}
theorem jc_add24 (hn : n < 8) (ho : o < 8) (hN : MC σ 14 Λ s) (hP : PcP σ Λ n o P T) (d : Nat) : ∃ σ1, J_X3_add_b24 14 (nI d) σ = some ((), σ1) ∧ PcP σ1 Λ (n + 1) o (fun i => if i = n then s else P i) (fun i => if i = n then d else T i) ∧ Fs (fun a _ => 24 ≤ a ∧ a ≤ 67) σ σ1 := by
  have hm : (o + n) % 8 < 8 := Nat.mod_lt _ (by decide)
  have ph := pm26 hm
  obtain ⟨σ1, r1, r2, r3⟩ := jc_copy (c := pm 26 ((o + n) % 8)) (d := 14) hN (by omega)
  have u3 : (up σ1 25 ((o + n) % 8) (nI d)) 24 3 = nI n := by rw [up_n (by decide), r3 24 (by omega)]; exact hP.1
  refine ⟨up (up σ1 25 ((o + n) % 8) (nI d)) 24 3 (nI (n + 1)), ?_, ⟨up_s, ?_, fun i hi => ?_⟩, Fs.up (P := fun a _ => 24 ≤ a ∧ a ≤ 67) (Fs.up (P := fun a _ => 24 ≤ a ∧ a ≤ 67) (r3.fs fun a j z => by omega) ⟨by omega, by omega⟩) ⟨by omega, by omega⟩⟩
  · unfold J_X3_add_b24
    rw [hP.1, j3_slot hP.2.1 ho (by omega), bd1_s, j4_get hm (by decide), bd1_s, r1, bd2_s, if_pos ((inb_nI (by omega)).mpr hm), nI_clamp (by omega), u3, show nI n + (1 : Int32) = nI (n + 1) from by rw [li_1, nI_add]]
  · rw [up_i (by decide), up_n (by decide), r3 24 (by omega)]; exact hP.2.1
  · show MC _ _ Λ (if i = n then s else P i) ∧ _ = nI (if i = n then d else T i)
    have hm2 : (o + i) % 8 < 8 := Nat.mod_lt _ (by decide)
    have ph2 := pm26 hm2
    by_cases ei : i = n
    · rw [if_pos ei, if_pos ei, ei]
      refine ⟨(r2.upo (a := 25) (by omega)).upo (a := 24) (by omega), ?_⟩
      rw [up_n (by decide), up_s]
    · rw [if_neg ei, if_neg ei]
      have hd : (o + i) % 8 ≠ (o + n) % 8 := by omega
      have d := pm_dis 26 hd
      refine ⟨(((hP.2.2 i (by omega)).1.frs r3.cells fun a j z1 z2 z3 => by omega).upo (a := 25) (by omega)).upo (a := 24) (by omega), ?_⟩
      rw [up_n (by decide), up_i hd, r3 25 (by omega)]; exact (hP.2.2 i (by omega)).2
/-- how the days look behind one more -/
def adN (n : Nat) : Nat := if n < 8 then n + 1 else 8
def adO (n o : Nat) : Nat := if n < 8 then o else (o + 1) % 8
def adF {α : Type} (n : Nat) (P : Nat → α) (s : α) : Nat → α := if n < 8 then (fun i => if i = n then s else P i) else (fun i => if i = 7 then s else P (i + 1))
theorem jc_add (hn : n ≤ 8) (ho : o < 8) (hN : MC σ 14 Λ s) (hP : PcP σ Λ n o P T) (d : Nat) : ∃ σ1, J_X3_add 14 (nI d) σ = some ((), σ1) ∧ PcP σ1 Λ (adN n) (adO n o) (adF n P s) (adF n T d) ∧ Fs (fun a _ => 24 ≤ a ∧ a ≤ 67) σ σ1 := by
  unfold J_X3_add adN adO adF
  by_cases e : n < 8
  · rw [hP.1, if_pos (show nI n < (8 : Int32) from by rw [li_8, nI_ltI (by omega) (by omega)]; exact e), if_pos e, if_pos e, if_pos e, if_pos e]
    exact jc_add24 e ho hN hP d
  · have e8 : n = 8 := by omega
    have ho' : (o + 1) % 8 < 8 := Nat.mod_lt _ (by decide)
    rw [hP.1, if_neg (show ¬ nI n < (8 : Int32) from by rw [li_8, nI_ltI (by omega) (by omega)]; exact e), if_neg e, if_neg e, if_neg e, if_neg e, show J_X3_slot 1 σ = some (nI ((o + 1) % 8)) from j3_slot (i := 1) hP.2.1 ho (by omega), bd1_s]
    have p7 : PcP (up (up σ 24 4 (nI ((o + 1) % 8))) 24 3 7) Λ 7 ((o + 1) % 8) (fun i => P (i + 1)) (fun i => T (i + 1)) := by
      refine ⟨up_s, ?_, fun i hi => ?_⟩
      · rw [up_i (by decide), up_s]
      · have hm2 : (o + (i + 1)) % 8 < 8 := Nat.mod_lt _ (by decide)
        have ph2 := pm26 hm2
        have em : ((o + 1) % 8 + i) % 8 = (o + (i + 1)) % 8 := by omega
        rw [em]
        refine ⟨((hP.2.2 (i + 1) (by omega)).1.upo (a := 24) (by omega)).upo (a := 24) (by omega), ?_⟩
        rw [up_n (by decide), up_n (by decide)]; exact (hP.2.2 (i + 1) (by omega)).2
    obtain ⟨σ1, r1, r2, r3⟩ := jc_add24 (by decide) ho' ((hN.upo (a := 24) (by omega)).upo (a := 24) (by omega)) p7 d
    exact ⟨σ1, r1, r2, (Fs.up (P := fun a _ => 24 ≤ a ∧ a ≤ 67) (Fs.up (P := fun a _ => 24 ≤ a ∧ a ≤ 67) Fs.rf ⟨by omega, by omega⟩) ⟨by omega, by omega⟩).tr r3⟩
def Rd (a j : Nat) : Prop := a = 146 ∨ a = 147 ∨ a = 148 ∨ a = 157 ∨ (a = 141 ∧ (j = 11 ∨ j = 32))
theorem Rd.no {a j : Nat} (h : Rd a j) : a = 146 ∨ a = 147 ∨ a = 148 ∨ a = 157 ∨ (a = 141 ∧ (j = 11 ∨ j = 32)) := h
theorem Wt.rd {a j : Nat} (h : Wt a j) : Rd a j := by
  rcases h with z | ⟨z1, z2⟩
  · exact Or.inr (Or.inr (Or.inr (Or.inl z)))
  · exact Or.inr (Or.inr (Or.inr (Or.inr ⟨z1, Or.inr z2⟩)))
theorem jm_does77 (hn : n < 8) (hP : PmP σ Λ n P T) (hN : MM σ 146 0 Λ s) (h : MS σ Λ s) (hd : sD s < 2 ^ 28) {d : Nat} (hd2 : d < 1000) (hc : d = 99 ∨ drvN Λ s (d / 10) (d % 10) ≠ 36) : ∃ σ1, J_X8_does_b77 (nI d) σ = some ((), σ1) ∧ PmP σ1 Λ (n + 1) (fun i => if i = n then s else P i) (fun i => if i = n then d else T i) ∧ MM σ1 146 0 Λ (livS Λ s d) ∧ Fs Rd σ σ1 := by
  have hΛ := h.2.2.1
  obtain ⟨σ1, r1, r2, r3⟩ := jm_copyRow (A := 147) (B := 146) (o1 := 54 * n) (o2 := 0) (by decide) (by decide) hΛ hN (show 54 * n + 54 ≤ 432 by omega) (by decide) (by omega) (by decide)
  have u11 : σ1 141 11 = nI n := by rw [r3 141 11 (fun z => by have := z.1; omega)]; exact hP.1
  have H1 : MS (up (up σ1 148 n (nI d)) 141 11 (nI (n + 1))) Λ s := by
    have hL := h.1.frs r3 fun a j z1 z2 z3 z4 => by have := z4.1; omega
    have hM := h.2.1.frs hΛ r3 fun j z1 z2 z4 => by have := z4.1; omega
    refine ⟨?_, (hM.upo (by decide)).upo (by decide), hΛ, h.2.2.2⟩
    refine LM.frs (P := fun a j => a = 148 ∨ (a = 141 ∧ j = 11)) hL (Fs.up (P := fun a j => a = 148 ∨ (a = 141 ∧ j = 11)) (Fs.up (P := fun a j => a = 148 ∨ (a = 141 ∧ j = 11)) Fs.rf (Or.inl rfl)) (Or.inr ⟨rfl, rfl⟩)) fun a j z1 z2 z3 z4 => by omega
  have f1 : Fs Rd σ (up (up σ1 148 n (nI d)) 141 11 (nI (n + 1))) := Fs.up (P := Rd) (Fs.up (P := Rd) (r3.mono fun a j z => Or.inr (Or.inl z.1)) (Or.inr (Or.inr (Or.inl rfl)))) (Or.inr (Or.inr (Or.inr (Or.inr ⟨rfl, Or.inl rfl⟩))))
  obtain ⟨σ2, t1, t2, t3⟩ := jm_goesBy H1 hd hd2 hc
  obtain ⟨σ3, y1, y2, y3⟩ := jm_copyRow (A := 146) (B := 157) (o1 := 0) (o2 := 0) (by decide) (by decide) hΛ t2.2.1 (by decide) (by decide) (by decide) (by decide)
  have t3' : ∀ a j, a ≠ 157 → ¬ (a = 141 ∧ j = 32) → σ2 a j = (up (up σ1 148 n (nI d)) 141 11 (nI (n + 1))) a j := fun a j z1 z2 => t3 a j (fun z => by rcases z with w | w; exact z1 w; exact z2 w)
  refine ⟨σ3, ?_, ⟨?_, fun i hi => ?_⟩, y2, f1.tr ((t3.mono fun _ _ z => z.rd).tr (y3.mono fun a j z => Or.inl z.1))⟩
  · unfold J_X8_does_b77
    rw [hP.1, show (54 : Int32) * nI n = nI (54 * n) from by rw [li_54, nI_mul], show J_X8_copies 147 (nI (54 * n)) 146 0 54 σ = _ from r1, bd2_s, u11, if_pos ((inb_nI (by omega)).mpr hn), nI_clamp (by omega), up_n (by decide), u11, show nI n + (1 : Int32) = nI (n + 1) from by rw [li_1, nI_add], t1, bd2_s, show J_X8_copies 146 0 157 0 54 σ2 = _ from y1, bd2_s]
  · rw [y3 141 11 (fun z => by have := z.1; omega), t3' 141 11 (by decide) (by decide), up_s]
  · show MM _ _ _ Λ (if i = n then s else P i) ∧ _ = nI (if i = n then d else T i)
    have b1 : ∀ j, σ3 147 j = σ1 147 j := fun j => by rw [y3 147 j (fun z => by have := z.1; omega), t3' 147 j (by decide) (by omega), up_n (by decide), up_n (by decide)]
    have b2 : σ3 148 i = (up σ1 148 n (nI d)) 148 i := by rw [y3 148 i (fun z => by have := z.1; omega), t3' 148 i (by decide) (by omega), up_n (by decide)]
    by_cases ei : i = n
    · rw [if_pos ei, if_pos ei, ei]
      refine ⟨MM.fr r2 (funext b1), ?_⟩
      rw [← ei, b2, ei, up_s]
    · rw [if_neg ei, if_neg ei]
      refine ⟨MM.fr ((hP.2 i (by omega)).1.frs hΛ r3 fun j z1 z2 z3 => by have := z3.2; omega) (funext b1), ?_⟩
      rw [b2, up_i ei, r3 148 i (fun z => by have := z.1; omega)]; exact (hP.2 i (by omega)).2
theorem jm_shift2 (x : Int32) : ∀ (k i j : Nat) (σ : Sg), i + k = 7 → k < j → ∃ σ', J_X8_does_b41 j x (nI i) σ = J_X8_does_b77 x (up σ' 141 11 (σ' 141 11 - 1)) ∧ (∀ m, i ≤ m → m < 7 → σ' 148 m = σ 148 (m + 1)) ∧ Fs (fun a j => a = 148 ∧ i ≤ j ∧ j < 7) σ σ' := by
  intro k
  induction k with
  | zero =>
    intro i j σ hi hj
    obtain ⟨j, rfl⟩ : ∃ i, j = i + 1 := ⟨j - 1, by omega⟩
    refine ⟨σ, ?_, fun m h1 h2 => by omega, Fs.rf⟩
    rw [J_X8_does_b41, if_pos (show (7 : Int32) ≤ nI i from by rw [show (7 : Int32) = nI 7 from rfl, nI_leI (by omega) (by omega)]; omega)]
  | succ k ih =>
    intro i j σ hi hj
    obtain ⟨j, rfl⟩ : ∃ i, j = i + 1 := ⟨j - 1, by omega⟩
    rw [J_X8_does_b41, if_neg (show ¬ (7 : Int32) ≤ nI i from by rw [show (7 : Int32) = nI 7 from rfl, nI_leI (by omega) (by omega)]; omega), show nI i + (1 : Int32) = nI (i + 1) from by rw [li_1, nI_add], if_pos ((inb_nI (by omega)).mpr (by omega)), if_pos ((inb_nI (by omega)).mpr (by omega)), nI_clamp (n := i) (by omega), nI_clamp (n := i + 1) (by omega)]
    obtain ⟨σ', r1, r2, r3⟩ := ih (i + 1) j (up σ 148 i (σ 148 (i + 1))) (by omega) (by omega)
    refine ⟨σ', r1, fun m h1 h2 => ?_, Fs.tr (Fs.up (P := fun a j => a = 148 ∧ i ≤ j ∧ j < 7) Fs.rf ⟨rfl, by omega, by omega⟩) (r3.mono fun a j z => ⟨z.1, by omega, z.2.2⟩)⟩
    by_cases e : m = i
    · rw [e, r3 148 i (fun z => by have := z.2.1; omega), up_s]
    · rw [r2 m (by omega) h2, up_i (by omega)]
theorem jm_shift1 (x : Int32) : ∀ (k i j : Nat) (σ : Sg), i + k = 378 → k < j → ∃ σ', J_X8_does_b11 j x (nI i) σ = J_X8_does_b41 FU x 0 σ' ∧ (∀ m, i ≤ m → m < 378 → σ' 147 m = σ 147 (m + 54)) ∧ Fs (fun a j => a = 147 ∧ i ≤ j ∧ j < 378) σ σ' := by
  intro k
  induction k with
  | zero =>
    intro i j σ hi hj
    obtain ⟨j, rfl⟩ : ∃ i, j = i + 1 := ⟨j - 1, by omega⟩
    refine ⟨σ, ?_, fun m h1 h2 => by omega, Fs.rf⟩
    rw [J_X8_does_b11, if_pos (show (378 : Int32) ≤ nI i from by rw [show (378 : Int32) = nI 378 from rfl, nI_leI (by omega) (by omega)]; omega)]
  | succ k ih =>
    intro i j σ hi hj
    obtain ⟨j, rfl⟩ : ∃ i, j = i + 1 := ⟨j - 1, by omega⟩
    rw [J_X8_does_b11, if_neg (show ¬ (378 : Int32) ≤ nI i from by rw [show (378 : Int32) = nI 378 from rfl, nI_leI (by omega) (by omega)]; omega), show nI i + (54 : Int32) = nI (i + 54) from by rw [li_54, nI_add], show nI i + (1 : Int32) = nI (i + 1) from by rw [li_1, nI_add], if_pos ((inb_nI (by omega)).mpr (by omega)), if_pos ((inb_nI (by omega)).mpr (by omega)), nI_clamp (n := i) (by omega), nI_clamp (n := i + 54) (by omega)]
    obtain ⟨σ', r1, r2, r3⟩ := ih (i + 1) j (up σ 147 i (σ 147 (i + 54))) (by omega) (by omega)
    refine ⟨σ', r1, fun m h1 h2 => ?_, Fs.tr (Fs.up (P := fun a j => a = 147 ∧ i ≤ j ∧ j < 378) Fs.rf ⟨rfl, by omega, by omega⟩) (r3.mono fun a j z => ⟨z.1, by omega, z.2.2⟩)⟩
    by_cases e : m = i
    · rw [e, r3 147 i (fun z => by have := z.2.1; omega), up_s]
    · rw [r2 m (by omega) h2, up_i (by omega)]
theorem jm_does (hn : n ≤ 8) (hP : PmP σ Λ n P T) (hN : MM σ 146 0 Λ s) (h : MS σ Λ s) (hd : sD s < 2 ^ 28) {d : Nat} (hd2 : d < 1000) (hc : d = 99 ∨ drvN Λ s (d / 10) (d % 10) ≠ 36) : ∃ σ1, J_X8_does (nI d) σ = some ((), σ1) ∧ PmP σ1 Λ (adN n) (adF n P s) (adF n T d) ∧ MM σ1 146 0 Λ (livS Λ s d) ∧ Fs Rd σ σ1 := by
  have hΛ := h.2.2.1
  unfold J_X8_does adN adF
  rw [hP.1]
  by_cases e : n < 8
  · rw [if_neg (nne li_8 (by omega) (by omega) (by omega)), if_pos e, if_pos e, if_pos e]
    exact jm_does77 e hP hN h hd hd2 hc
  · have e8 : n = 8 := by omega
    rw [if_pos (neq li_8 e8), if_neg e, if_neg e, if_neg e]
    obtain ⟨σ1, r1, r2, r3⟩ := jm_shift1 (nI d) 378 0 FU σ (by omega) (by rw [FU_eq]; omega)
    obtain ⟨σ2, t1, t2, t3⟩ := jm_shift2 (nI d) 7 0 FU σ1 (by omega) (by rw [FU_eq]; omega)
    have u11 : σ2 141 11 = nI 8 := by rw [t3 141 11 (fun z => by have := z.1; omega), r3 141 11 (fun z => by have := z.1; omega), hP.1, e8]
    have F : Fs (fun a j => a = 147 ∨ a = 148 ∨ (a = 141 ∧ j = 11)) σ (up σ2 141 11 (nI 7)) := Fs.up (P := fun a j => a = 147 ∨ a = 148 ∨ (a = 141 ∧ j = 11)) (Fs.tr (r3.mono fun a j z => Or.inl z.1) (t3.mono fun a j z => Or.inr (Or.inl z.1))) (Or.inr (Or.inr ⟨rfl, rfl⟩))
    have p7 : PmP (up σ2 141 11 (nI 7)) Λ 7 (fun i => P (i + 1)) (fun i => T (i + 1)) := by
      refine ⟨up_s, fun i hi => ⟨?_, ?_⟩⟩
      · refine MM.copy hΛ (hP.2 (i + 1) (by omega)).1 fun m hm => ?_
        rw [up_n (by decide), t3 147 _ (fun z => by have := z.1; omega), r2 _ (by omega) (by omega), show 54 * i + m + 54 = 54 * (i + 1) + m by omega]
      · rw [up_n (by decide), t2 i (by omega) (by omega), r3 148 _ (fun z => by have := z.1; omega)]
        exact (hP.2 (i + 1) (by omega)).2
    have H : MS (up σ2 141 11 (nI 7)) Λ s := ⟨h.1.frs F fun a j z1 z2 z3 z4 => by omega, h.2.1.frs hΛ F fun j z1 z2 z3 => by omega, hΛ, h.2.2.2⟩
    obtain ⟨σ3, y1, y2, y3, y4⟩ := jm_does77 (by decide) p7 (hN.frs hΛ F fun j z1 z2 z3 => by omega) H hd hd2 hc
    refine ⟨σ3, ?_, y2, y3, (F.mono fun a j z => ?_).tr y4⟩
    · rw [show J_X8_does_b11 FU (nI d) 0 σ = _ from r1, show J_X8_does_b41 FU (nI d) 0 σ1 = _ from t1, u11, show nI 8 - (1 : Int32) = nI 7 from rfl]
      exact y1
    · rcases z with w | w | w
      · exact Or.inr (Or.inl w)
      · exact Or.inr (Or.inr (Or.inl w))
      · exact Or.inr (Or.inr (Or.inr (Or.inr ⟨w.1, Or.inl w.2⟩)))
end ADD
