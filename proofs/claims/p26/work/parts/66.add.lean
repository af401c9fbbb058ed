/-! a day is written down, both sides -/
section ADD
variable {σ σ' : Sg} {Λ : LT} {s : ST} {D n o q : Nat} {P K : Nat → ST} {T : Nat → Nat}
theorem jc_add24 (hn : n < 8) (ho : o < 8) (hN : MC σ 14 Λ s) (hP : PcP σ Λ n o P T) (d : Nat) : ∃ σ1, J_X3_add_b24 14 (nI d) σ = some ((), σ1) ∧ PcP σ1 Λ (n + 1) o (fun i => if i = n then s else P i) (fun i => if i = n then d else T i) ∧ Fs (fun a _ => 24 ≤ a ∧ a ≤ 67) σ σ1 := by
  have hm : (o + n) % 8 < 8 := Nat.mod_lt _ (by decide)
  have ph := pm26 hm
  obtain ⟨σ1, r1, r2, r3⟩ := jc_copy (c := pm 26 ((o + n) % 8)) (d := 14) hN (by omega)
  have u3 : (up σ1 25 ((o + n) % 8) (nI d)) 24 3 = nI n := by rw [up_n (by decide), r3 24 (by omega)]; exact hP.1
  refine ⟨up (up σ1 25 ((o + n) % 8) (nI d)) 24 3 (nI (n + 1)), ?_, ⟨up_s, ?_, fun i hi => ?_⟩, Fs.up (P := fun a _ => 24 ≤ a ∧ a ≤ 67) (Fs.up (P := fun a _ => 24 ≤ a ∧ a ≤ 67) (r3.fs fun a j z => by omega) ⟨by omega, by omega⟩) ⟨by omega, by omega⟩⟩
  · unfold J_X3_add_b24
    rw [hP.1, j3_slot hP.2.1 ho (by omega), bd1_s, j4_get hm (by decide), bd1_s, r1, bd2_s, if_pos ((inb_nI (by omega)).mpr hm), nI_clamp (by omega), u3, show nI n + (1 : Int32) = nI (n + 1) from by rw [li_1, nI_add]]
  · rw [up_i (by decide), up_n (by decide), r3 24 (by omega)]; exact hP.2.1
  · show MC _ _ Λ (if i = n then s else P i) ∧ _ = nI (if i = n then d else T i)
    have hm2 : (o + i) % 8 < 8 := Nat.mod_lt _ (by decide)
    have ph2 := pm26 hm2
    by_cases ei : i = n
    · rw [if_pos ei, if_pos ei, ei]
      refine ⟨(r2.upo (a := 25) (by omega)).upo (a := 24) (by omega), ?_⟩
      rw [up_n (by decide), up_s]
    · rw [if_neg ei, if_neg ei]
      have hd : (o + i) % 8 ≠ (o + n) % 8 := by omega
      have d := pm_dis 26 hd
      refine ⟨(((hP.2.2 i (by omega)).1.frs r3.cells fun a j z1 z2 z3 => by omega).upo (a := 25) (by omega)).upo (a := 24) (by omega), ?_⟩
      rw [up_n (by decide), up_i hd, r3 25 (by omega)]; exact (hP.2.2 i (by omega)).2
/-- how the days look behind one more -/
def adN (n : Nat) : Nat := if n < 8 then n + 1 else 8
def adO (n o : Nat) : Nat := if n < 8 then o else (o + 1) % 8
def adF {α : Type} (n : Nat) (P : Nat → α) (s : α) : Nat → α := if n < 8 then (fun i => if i = n then s else P i) else (fun i => if i = 7 then s else P (i + 1))
theorem jc_add (hn : n ≤ 8) (ho : o < 8) (hN : MC σ 14 Λ s) (hP : PcP σ Λ n o P T) (d : Nat) : ∃ σ1, J_X3_add 14 (nI d) σ = some ((), σ1) ∧ PcP σ1 Λ (adN n) (adO n o) (adF n P s) (adF n T d) ∧ Fs (fun a _ => 24 ≤ a ∧ a ≤ 67) σ σ1 := by
  unfold J_X3_add adN adO adF
  by_cases e : n < 8
  · rw [hP.1, if_pos (show nI n < (8 : Int32) from by rw [li_8, nI_ltI (by omega) (by omega)]; exact e), if_pos e, if_pos e, if_pos e, if_pos e]
    exact jc_add24 e ho hN hP d
  · have e8 : n = 8 := by omega
    have ho' : (o + 1) % 8 < 8 := Nat.mod_lt _ (by decide)
    rw [hP.1, if_neg (show ¬ nI n < (8 : Int32) from by rw [li_8, nI_ltI (by omega) (by omega)]; exact e), if_neg e, if_neg e, if_neg e, if_neg e, show J_X3_slot 1 σ = some (nI ((o + 1) % 8)) from j3_slot (i := 1) hP.2.1 ho (by omega), bd1_s]
    have p7 : PcP (up (up σ 24 4 (nI ((o + 1) % 8))) 24 3 7) Λ 7 ((o + 1) % 8) (fun i => P (i + 1)) (fun i => T (i + 1)) := by
      refine ⟨up_s, ?_, fun i hi => ?_⟩
      · rw [up_i (by decide), up_s]
      · have hm2 : (o + (i + 1)) % 8 < 8 := Nat.mod_lt _ (by decide)
        have ph2 := pm26 hm2
        have em : ((o + 1) % 8 + i) % 8 = (o + (i + 1)) % 8 := by omega
        rw [em]
        refine ⟨((hP.2.2 (i + 1) (by omega)).1.upo (a := 24) (by omega)).upo (a := 24) (by omega), ?_⟩
        rw [up_n (by decide), up_n (by decide)]; exact (hP.2.2 (i + 1) (by omega)).2
    obtain ⟨σ1, r1, r2, r3⟩ := jc_add24 (by decide) ho' ((hN.upo (a := 24) (by omega)).upo (a := 24) (by omega)) p7 d
    exact ⟨σ1, r1, r2, (Fs.up (P := fun a _ => 24 ≤ a ∧ a ≤ 67) (Fs.up (P := fun a _ => 24 ≤ a ∧ a ≤ 67) Fs.rf ⟨by omega, by omega⟩) ⟨by omega, by omega⟩).tr r3⟩
def Rd (a j : Nat) : Prop := a = 146 ∨ a = 147 ∨ a = 148 ∨ a = 157 ∨ (a = 141 ∧ (j = 11 ∨ j = 32))
theorem Rd.no {a j : Nat} (h : Rd a j) : a = 146 ∨ a = 147 ∨ a = 148 ∨ a = 157 ∨ (a = 141 ∧ (j = 11 ∨ j = 32)) := h
theorem Wt.rd {a j : Nat} (h : Wt a j) : Rd a j := by
  rcases h with z | ⟨z1, z2⟩
  · exact Or.inr (Or.inr (Or.inr (Or.inl z)))
  · exact Or.inr (Or.inr (Or.inr (Or.inr ⟨z1, Or.inr z2⟩)))
end ADD
