/-! calls: fault, lay -/
def laΛ (r : RT) : LT := ((rQ r, rW r, rB r, rBe r, rSn r, rWl r), rG r, rK r, rV r, rS r)
def laS (r : RT) : ST := (0, fun x => if rG r x = 9 then 0 else rG r x, rX r, fun _ => 0, 0)
theorem la_ok {r : RT} (ok : ROK r) (hB : 1 ≤ rB r) : LOK (laΛ r) ∧ SOK (laΛ r) (laS r) := by
  obtain ⟨o1, o2, o3, o4, o5, o6, o7, o8, o9, o10⟩ := ok
  have x0 := (o5 0 hB).2.2.1
  have o2' : 1 ≤ rR r ∧ 1 ≤ rW r ∧ rW r ≤ 6 ∧ rQ r = rR r * rW r := by
    rcases o2 with ⟨z1, z2, z3⟩ | z
    · omega
    · exact z
  refine ⟨⟨⟨o2'.2.1, o2'.2.2.1⟩, ⟨rR r, o2'.1, o1, o2'.2.2.2⟩, ⟨hB, o4⟩, o8, o9, o7, o3, fun b hb => ⟨(o5 b hb).1, (o5 b hb).2.1⟩, o10⟩, ⟨fun x hx => ?_, fun b hb => Or.inr ⟨(o5 b hb).2.2.1, (o5 b hb).2.2.2⟩, fun a b ha hb z _ => o6 a b ha hb z, fun b _ => ⟨by show 0 ≤ 10; omega, fun _ => Nat.zero_le _⟩, by show 0 < 256; omega⟩⟩
  show (if rG r x = 9 then 0 else rG r x) ≤ 8 ∧ (rG r x = 9 → (if rG r x = 9 then 0 else rG r x) = 0)
  have g := o3 x hx
  by_cases e : rG r x = 9
  · rw [if_pos e]; exact ⟨by omega, fun _ => rfl⟩
  · rw [if_neg e]; exact ⟨by omega, fun z => absurd z e⟩
section LAY
variable {σ : Sg} {D : Nat} {L : Nat → Nat} {t : Nat} {r : RT}
theorem RC.lay {σ' : Sg} (c : RC σ r) (ok : ROK r) (hB : 1 ≤ rB r) (l : ∀ j, j ≠ 2 → j ≤ 6 → σ' 1 j = σ 6 j) (l1 : σ' 2 = σ 7) (l2 : σ' 3 = σ 8) (m0 : σ' 14 5 = σ 9 5) (m1 : σ' 15 = σ 10) (m2 : σ' 16 = σ 11) (m3 : σ' 17 = σ 12) (m4 : σ' 18 = σ 13) : LC σ' 1 (laΛ r) ∧ MC σ' 14 (laΛ r) (laS r) := by
  obtain ⟨c0, c1, c2, c3, c4, c5, c6, c7, c8, c9, c10⟩ := c
  have q36 := ok.q36
  refine ⟨⟨?_, ?_, ?_, ?_, ?_, ?_, fun b hb => ?_, fun k hk => ?_⟩, ⟨?_, fun x hx => ?_, fun b hb => ?_, fun b hb => ?_, fun b hb => ?_⟩⟩
  · rw [l 0 (by decide) (by decide)]; exact c0
  · rw [l 1 (by decide) (by decide)]; exact c1
  · rw [l 3 (by decide) (by decide)]; exact c3
  · rw [l 4 (by decide) (by decide)]; exact c4
  · rw [l 5 (by decide) (by decide)]; exact c5
  · rw [l 6 (by decide) (by decide)]; exact c6
  · show σ' 2 b = _
    rw [l1]; exact (c8 b hb).1
  · show σ' 3 k = _
    rw [l2]; exact c9 k hk
  · rw [m0]; exact c10
  · show σ' 15 x = nI (if rG r x = 9 then 9 else (if rG r x = 9 then 0 else rG r x))
    rw [m1, c7 x hx]
    by_cases e : rG r x = 9
    · rw [if_pos e, e]
    · rw [if_neg e, if_neg e]
  · have xb := (ok.2.2.2.2.1 b hb).2.2.1
    show σ' 16 b = plI (rX r b)
    rw [m2, (c8 b hb).2.1, plI_of (by omega)]
  · show σ' 17 b = nI (kdN (laΛ r) (laS r) b)
    rw [m3, (c8 b hb).2.2.1]
    congr 1
    unfold kdN
    rw [if_neg]
    · rfl
    · rintro ⟨_, z⟩
      have z' : (0 : Nat).testBit b = true := z
      simp at z'
  · show σ' 18 b = nI 0
    rw [m4]; exact (c8 b hb).2.2.2
def Rse (a j : Nat) : Prop := (142 ≤ a ∧ a ≤ 146) ∨ (a = 141 ∧ j ≤ 14)
theorem Rse.no {a j : Nat} (h : Rse a j) : (142 ≤ a ∧ a ≤ 146) ∨ (a = 141 ∧ j ≤ 14) := h
theorem RM.se {σ' : Sg} (c : RM σ r) (f : Fs Rse σ σ') : RM σ' r := by
  obtain ⟨c0, c1, c2, c3, c4, c5, c6, c7, c8⟩ := c
  refine ⟨?_, ?_, ?_, ?_, ?_, ?_, fun x hx => ?_, fun b hb => ?_, fun k hk => ?_⟩
  · rw [f _ _ (fun z => by have := z.no; omega)]; exact c0
  · rw [f _ _ (fun z => by have := z.no; omega)]; exact c1
  · rw [f _ _ (fun z => by have := z.no; omega)]; exact c2
  · rw [f _ _ (fun z => by have := z.no; omega)]; exact c3
  · rw [f _ _ (fun z => by have := z.no; omega)]; exact c4
  · rw [f _ _ (fun z => by have := z.no; omega)]; exact c5
  · rw [f _ _ (fun z => by have := z.no; omega)]; exact c6 x hx
  · rw [f _ _ (fun z => by have := z.no; omega), f _ _ (fun z => by have := z.no; omega), f _ _ (fun z => by have := z.no; omega)]; exact c7 b hb
  · rw [f _ _ (fun z => by have := z.no; omega)]; exact c8 k hk
end LAY
