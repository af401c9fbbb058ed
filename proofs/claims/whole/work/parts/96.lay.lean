/-! calls: fault, lay -/
def laΛ (r : RT) : LT := ((rQ r, rW r, rB r, rBe r, rSn r, rWl r), rG r, rK r, rV r, rS r)
def laS (r : RT) : ST := (0, fun x => if rG r x = 9 then 0 else rG r x, rX r, fun _ => 0, 0)
theorem la_ok {r : RT} (ok : ROK r) (hB : 1 ≤ rB r) : LOK (laΛ r) ∧ SOK (laΛ r) (laS r) := by
  obtain ⟨o1, o2, o3, o4, o5, o6, o7, o8, o9, o10⟩ := ok
  have x0 := (o5 0 hB).2.2.1
  have o2' : 1 ≤ rR r ∧ 1 ≤ rW r ∧ rW r ≤ 6 ∧ rQ r = rR r * rW r := by
    rcases o2 with ⟨z1, z2, z3⟩ | z
    · omega
    · exact z
  refine ⟨⟨⟨o2'.2.1, o2'.2.2.1⟩, ⟨rR r, o2'.1, o1, o2'.2.2.2⟩, ⟨hB, o4⟩, o8, o9, o7, o3, fun b hb => ⟨(o5 b hb).1, (o5 b hb).2.1⟩, o10⟩, ⟨fun x hx => ?_, fun b hb => Or.inr ⟨(o5 b hb).2.2.1, (o5 b hb).2.2.2⟩, fun a b ha hb z _ => o6 a b ha hb z, fun b _ => ⟨by show 0 ≤ 10; omega, fun _ => Nat.zero_le _⟩, by show 0 < 256; omega⟩⟩
  show (if rG r x = 9 then 0 else rG r x) ≤ 8 ∧ (rG r x = 9 → (if rG r x = 9 then 0 else rG r x) = 0)
  have g := o3 x hx
  by_cases e : rG r x = 9
  · rw [if_pos e]; exact ⟨by omega, fun _ => rfl⟩
  · rw [if_neg e]; exact ⟨by omega, fun z => absurd z e⟩
section LAY
variable {σ : Sg} {D : Nat} {L : Nat → Nat} {t : Nat} {r : RT}
theorem RC.lay {σ' : Sg} (c : RC σ r) (ok : ROK r) (hB : 1 ≤ rB r) (l : ∀ j, j ≠ 2 → j ≤ 6 → σ' 1 j = σ 6 j) (l1 : σ' 2 = σ 7) (l2 : σ' 3 = σ 8) (m0 : σ' 14 5 = σ 9 5) (m1 : σ' 15 = σ 10) (m2 : σ' 16 = σ 11) (m3 : σ' 17 = σ 12) (m4 : σ' 18 = σ 13) : LC σ' 1 (laΛ r) ∧ MC σ' 14 (laΛ r) (laS r) := by
  obtain ⟨c0, c1, c2, c3, c4, c5, c6, c7, c8, c9, c10⟩ := c
  have q36 := ok.q36
  refine ⟨⟨?_, ?_, ?_, ?_, ?_, ?_, fun b hb => ?_, fun k hk => ?_⟩, ⟨?_, fun x hx => ?_, fun b hb => ?_, fun b hb => ?_, fun b hb => ?_⟩⟩
  · rw [l 0 (by decide) (by decide)]; exact c0
  · rw [l 1 (by decide) (by decide)]; exact c1
  · rw [l 3 (by decide) (by decide)]; exact c3
  · rw [l 4 (by decide) (by decide)]; exact c4
  · rw [l 5 (by decide) (by decide)]; exact c5
  · rw [l 6 (by decide) (by decide)]; exact c6
  · show σ' 2 b = _
    rw [l1]; exact (c8 b hb).1
  · show σ' 3 k = _
    rw [l2]; exact c9 k hk
  · rw [m0]; exact c10
  · show σ' 15 x = nI (if rG r x = 9 then 9 else (if rG r x = 9 then 0 else rG r x))
    rw [m1, c7 x hx]
    by_cases e : rG r x = 9
    · rw [if_pos e, e]
    · rw [if_neg e, if_neg e]
  · have xb := (ok.2.2.2.2.1 b hb).2.2.1
    show σ' 16 b = plI (rX r b)
    rw [m2, (c8 b hb).2.1, plI_of (by omega)]
  · show σ' 17 b = nI (kdN (laΛ r) (laS r) b)
    rw [m3, (c8 b hb).2.2.1]
    congr 1
    unfold kdN
    rw [if_neg]
    · rfl
    · rintro ⟨_, z⟩
      have z' : (0 : Nat).testBit b = true := z
      simp at z'
  · show σ' 18 b = nI 0
    rw [m4]; exact (c8 b hb).2.2.2
def Rse (a j : Nat) : Prop := (142 ≤ a ∧ a ≤ 146) ∨ (a = 141 ∧ j ≤ 14)
theorem Rse.no {a j : Nat} (h : Rse a j) : (142 ≤ a ∧ a ≤ 146) ∨ (a = 141 ∧ j ≤ 14) := h
theorem RM.se {σ' : Sg} (c : RM σ r) (f : Fs Rse σ σ') : RM σ' r := by
  obtain ⟨c0, c1, c2, c3, c4, c5, c6, c7, c8⟩ := c
  refine ⟨?_, ?_, ?_, ?_, ?_, ?_, fun x hx => ?_, fun b hb => ?_, fun k hk => ?_⟩
  · rw [f _ _ (fun z => by have := z.no; omega)]; exact c0
  · rw [f _ _ (fun z => by have := z.no; omega)]; exact c1
  · rw [f _ _ (fun z => by have := z.no; omega)]; exact c2
  · rw [f _ _ (fun z => by have := z.no; omega)]; exact c3
  · rw [f _ _ (fun z => by have := z.no; omega)]; exact c4
  · rw [f _ _ (fun z => by have := z.no; omega)]; exact c5
  · rw [f _ _ (fun z => by have := z.no; omega)]; exact c6 x hx
  · rw [f _ _ (fun z => by have := z.no; omega), f _ _ (fun z => by have := z.no; omega), f _ _ (fun z => by have := z.no; omega)]; exact c7 b hb
  · rw [f _ _ (fun z => by have := z.no; omega)]; exact c8 k hk
theorem jm_se110 : ∀ (k i j : Nat) (σ : Sg), i + k = 54 → k < j → ∃ σ', J_X8_settles_b110 j (nI i) σ = J_X8_settles_b131 FU 0 σ' ∧ (∀ m, i ≤ m → m < 54 → σ' 146 m = 0) ∧ (∀ m, m < i → σ' 146 m = σ 146 m) ∧ Fr (fun a => a = 146) σ σ' := by
  intro k
  induction k with
  | zero =>
    intro i j σ hi hj
    obtain ⟨j, rfl⟩ : ∃ i, j = i + 1 := ⟨j - 1, by omega⟩
    refine ⟨σ, ?_, fun m h1 h2 => by omega, fun _ _ => rfl, Fr.rf⟩
    rw [J_X8_settles_b110, if_pos (show (54 : Int32) ≤ nI i from by rw [li_54, nI_leI (by omega) (by omega)]; omega)]
  | succ k ih =>
    intro i j σ hi hj
    obtain ⟨j, rfl⟩ : ∃ i, j = i + 1 := ⟨j - 1, by omega⟩
    rw [J_X8_settles_b110, if_neg (show ¬ (54 : Int32) ≤ nI i from by rw [li_54, nI_leI (by omega) (by omega)]; omega), if_pos ((inb_nI (by omega)).mpr (by omega)), nI_clamp (by omega), show nI i + (1 : Int32) = nI (i + 1) from by rw [li_1, nI_add]]
    obtain ⟨σ', r1, r2, r3, r4⟩ := ih (i + 1) j (up σ 146 i 0) (by omega) (by omega)
    refine ⟨σ', r1, fun m h1 h2 => ?_, fun m hm => ?_, (Fr.up (P := fun a => a = 146) Fr.rf rfl).tr r4⟩
    · by_cases e : m = i
      · rw [e, r3 i (by omega), up_s]
      · exact r2 m (by omega) h2
    · rw [r3 m (by omega), up_i (by omega)]
theorem jm_se131 {Q : Nat} {G : Nat → Nat} (hQ : Q ≤ 36) (hG : ∀ x, x < Q → G x ≤ 9) : ∀ (k n j : Nat) (σ : Sg), n + k = Q → k < j → σ 141 0 = nI Q → (∀ x, x < Q → σ 142 x = nI (G x)) → ∃ σ', J_X8_settles_b131 j (nI n) σ = J_X8_settles_b176 FU 0 σ' ∧ (∀ x, n ≤ x → x < Q → σ' 146 (1 + x) = nI (if G x = 9 then 0 else G x)) ∧ Fs (fun a j => a = 146 ∧ 1 + n ≤ j ∧ j < 1 + Q) σ σ' := by
  intro k
  induction k with
  | zero =>
    intro n j σ hi hj h0 h1
    obtain ⟨j, rfl⟩ : ∃ i, j = i + 1 := ⟨j - 1, by omega⟩
    refine ⟨σ, ?_, fun m h1 h2 => by omega, Fs.rf⟩
    rw [J_X8_settles_b131, h0, if_pos ((nI_leI (by omega) (by omega)).mpr (by omega))]
  | succ k ih =>
    intro n j σ hi hj h0 h1
    obtain ⟨j, rfl⟩ : ∃ i, j = i + 1 := ⟨j - 1, by omega⟩
    have g := hG n (by omega)
    have i36 : inb (nI n) 36 = true := (inb_nI (by omega)).mpr (by omega)
    have i54 : inb (nI (1 + n)) 54 = true := (inb_nI (by omega)).mpr (by omega)
    have go : ∀ v, nI (if G n = 9 then 0 else G n) = v → ∃ σ', J_X8_settles_b131 j (nI (n + 1)) (up σ 146 (1 + n) v) = J_X8_settles_b176 FU 0 σ' ∧ (∀ x, n ≤ x → x < Q → σ' 146 (1 + x) = nI (if G x = 9 then 0 else G x)) ∧ Fs (fun a j => a = 146 ∧ 1 + n ≤ j ∧ j < 1 + Q) σ σ' := by
      intro v hv
      obtain ⟨σ', r1, r2, r3⟩ := ih (n + 1) j (up σ 146 (1 + n) v) (by omega) (by omega) (by rw [up_n (by decide)]; exact h0) (fun x hx => by rw [up_n (by decide)]; exact h1 x hx)
      refine ⟨σ', r1, fun x h1 h2 => ?_, Fs.tr (Fs.up (P := fun a j => a = 146 ∧ 1 + n ≤ j ∧ j < 1 + Q) Fs.rf ⟨rfl, Nat.le_refl _, by omega⟩) (r3.mono fun a j z => ⟨z.1, by omega, z.2.2⟩)⟩
      by_cases e : x = n
      · rw [e, r3 146 (1 + n) (fun z => by have := z.2.1; omega), up_s, hv]
      · exact r2 x (by omega) h2
    rw [J_X8_settles_b131, h0, if_neg (fun z => by have := (nI_leI (by omega) (by omega)).mp z; omega), if_pos i36, nI_clamp (n := n) (by omega), h1 n (by omega), show (1 : Int32) + nI n = nI (1 + n) from by rw [li_1, nI_add], if_pos i54, nI_clamp (n := 1 + n) (by omega), show nI n + (1 : Int32) = nI (n + 1) from by rw [li_1, nI_add]]
    by_cases e : G n = 9
    · rw [if_pos (neq li_9 e)]
      exact go 0 (by rw [if_pos e]; rfl)
    · rw [if_neg (nne li_9 (by omega) (by omega) e), if_pos i36, if_pos i54]
      exact go _ (by rw [if_neg e])
theorem jm_se176 {B : Nat} (hB : B ≤ 8) : ∀ (k b j : Nat) (σ : Sg), b + k = 8 → k < j → σ 141 3 = nI B → ∃ σ', J_X8_settles_b176 j (nI b) σ = some ((), (up (up σ' 141 11 (0 : Int32)) 141 14 (0 : Int32))) ∧ (∀ m, b ≤ m → m < B → σ' 146 (37 + m) = σ 155 m) ∧ Fs (fun a j => a = 146 ∧ 37 + b ≤ j ∧ j < 45) σ σ' := by
  intro k
  induction k with
  | zero =>
    intro b j σ hi hj h0
    obtain ⟨j, rfl⟩ : ∃ i, j = i + 1 := ⟨j - 1, by omega⟩
    refine ⟨σ, ?_, fun m h1 h2 => by omega, Fs.rf⟩
    rw [J_X8_settles_b176, if_pos (show (8 : Int32) ≤ nI b from by rw [li_8, nI_leI (by omega) (by omega)]; omega)]
  | succ k ih =>
    intro b j σ hi hj h0
    obtain ⟨j, rfl⟩ : ∃ i, j = i + 1 := ⟨j - 1, by omega⟩
    have i8 : inb (nI b) 8 = true := (inb_nI (by omega)).mpr (by omega)
    have i54 : inb (nI (37 + b)) 54 = true := (inb_nI (by omega)).mpr (by omega)
    have go : ∀ v, (b < B → v = σ 155 b) → ∃ σ', J_X8_settles_b176 j (nI (b + 1)) (up σ 146 (37 + b) v) = some ((), (up (up σ' 141 11 (0 : Int32)) 141 14 (0 : Int32))) ∧ (∀ m, b ≤ m → m < B → σ' 146 (37 + m) = σ 155 m) ∧ Fs (fun a j => a = 146 ∧ 37 + b ≤ j ∧ j < 45) σ σ' := by
      intro v hv
      obtain ⟨σ', r1, r2, r3⟩ := ih (b + 1) j (up σ 146 (37 + b) v) (by omega) (by omega) (by rw [up_n (by decide)]; exact h0)
      refine ⟨σ', r1, fun m h1 h2 => ?_, Fs.tr (Fs.up (P := fun a j => a = 146 ∧ 37 + b ≤ j ∧ j < 45) Fs.rf ⟨rfl, Nat.le_refl _, by omega⟩) (r3.mono fun a j z => ⟨z.1, by omega, z.2.2⟩)⟩
      by_cases e : m = b
      · rw [e, r3 146 (37 + b) (fun z => by have := z.2.1; omega), up_s]; exact hv (by omega)
      · rw [r2 m (by omega) h2, up_n (by decide)]
    rw [J_X8_settles_b176, if_neg (show ¬ (8 : Int32) ≤ nI b from by rw [li_8, nI_leI (by omega) (by omega)]; omega), h0, show (37 : Int32) + nI b = nI (37 + b) from by rw [li_37, nI_add], show nI b + (1 : Int32) = nI (b + 1) from by rw [li_1, nI_add], nI_clamp (n := b) (by omega), nI_clamp (n := 37 + b) (by omega)]
    by_cases e : B ≤ b
    · rw [if_pos ((nI_leI (by omega) (by omega)).mpr e), if_pos i54]
      exact go 36 (fun z => by omega)
    · rw [if_neg (fun z => e ((nI_leI (by omega) (by omega)).mp z)), if_pos i8, if_pos i54]
      exact go _ (fun _ => rfl)
theorem jm_settles (rm : RM σ r) (ok : ROK r) (hB : 1 ≤ rB r) : ∃ σ', J_X8_settles σ = some ((), σ') ∧ LM σ' (laΛ r) ∧ MM σ' 146 0 (laΛ r) (laS r) ∧ σ' 141 11 = nI 0 ∧ σ' 141 14 = nI 0 ∧ Fs Rse σ σ' := by
  have q36 := ok.q36
  have b8 := ok.2.2.2.1
  have g9 := ok.2.2.1
  have cp : ∀ (A B n : Nat) (σ : Sg), A ≠ B → n ≤ aln A → n ≤ aln B → n < 900 → ∃ σ', J_X8_copies A 0 B 0 (nI n) σ = some ((), σ') ∧ (∀ m, m < n → σ' A m = σ B m) ∧ Fs (fun a _ => a = A) σ σ' := by
    intro A B n σ h1 h2 h3 h4
    obtain ⟨σ', a, b, c⟩ := jm_copies (σ := σ) (A := A) (B := B) (o1 := 0) (o2 := 0) (n := n) h1 (by omega) (by omega) (by omega) (by omega) h4
    refine ⟨σ', a, fun m hm => ?_, c.mono fun a j z => z.1⟩
    have := b m hm
    rw [Nat.zero_add] at this
    exact this
  unfold J_X8_settles
  have u1 : (up σ 141 0 (σ 141 20)) 141 21 = σ 141 21 := up_i (by decide)
  rw [u1]
  have F1 : Fs Rse σ (up (up σ 141 0 (σ 141 20)) 141 1 (σ 141 21)) := Fs.up (P := Rse) (Fs.up (P := Rse) Fs.rf (Or.inr ⟨rfl, by decide⟩)) (Or.inr ⟨rfl, by decide⟩)
  have a0 : (up (up σ 141 0 (σ 141 20)) 141 1 (σ 141 21)) 141 0 = nI (rQ r) := by rw [up_i (by decide), up_s]; exact rm.1
  have a1 : (up (up σ 141 0 (σ 141 20)) 141 1 (σ 141 21)) 141 1 = nI (rW r) := by rw [up_s]; exact rm.2.1
  generalize up (up σ 141 0 (σ 141 20)) 141 1 (σ 141 21) = σ1 at F1 a0 a1 ⊢
  have rm1 := rm.se F1
  obtain ⟨σ2, b1, b2, b3⟩ := cp 142 152 36 σ1 (by decide) (by decide) (by decide) (by decide)
  rw [show J_X8_copies 142 0 152 0 36 σ1 = _ from b1, bd2_s]
  have F2 : Fs Rse σ σ2 := F1.tr (b3.mono fun a j z => Or.inl ⟨by omega, by omega⟩)
  have rm2 := rm.se F2
  rw [rm2.2.2.1]
  have F3 : Fs Rse σ (up σ2 141 3 (nI (rB r))) := Fs.up (P := Rse) F2 (Or.inr ⟨rfl, by decide⟩)
  obtain ⟨σ4, d1, d2, d3⟩ := cp 143 153 8 (up σ2 141 3 (nI (rB r))) (by decide) (by decide) (by decide) (by decide)
  rw [show J_X8_copies 143 0 153 0 8 (up σ2 141 3 (nI (rB r))) = _ from d1, bd2_s]
  have F4 : Fs Rse σ σ4 := F3.tr (d3.mono fun a j z => Or.inl ⟨by omega, by omega⟩)
  obtain ⟨σ5, e1, e2, e3⟩ := cp 144 154 8 σ4 (by decide) (by decide) (by decide) (by decide)
  rw [show J_X8_copies 144 0 154 0 8 σ4 = _ from e1, bd2_s]
  have F5 : Fs Rse σ σ5 := F4.tr (e3.mono fun a j z => Or.inl ⟨by omega, by omega⟩)
  have rm5 := rm.se F5
  have u2 : (up σ5 141 6 (σ5 141 27)) 141 28 = nI (rBe r) := by rw [up_i (by decide)]; exact rm5.2.2.2.2.1
  rw [u2]
  have u3 : (up (up σ5 141 6 (σ5 141 27)) 141 7 (nI (rBe r))) 141 29 = nI (rSn r) := by rw [up_i (by decide), up_i (by decide)]; exact rm5.2.2.2.2.2.1
  rw [u3, rm5.2.2.2.1]
  have F6 : Fs Rse σ (up (up (up σ5 141 6 (plI (rWl r))) 141 7 (nI (rBe r))) 141 8 (nI (rSn r))) := Fs.up (P := Rse) (Fs.up (P := Rse) (Fs.up (P := Rse) F5 (Or.inr ⟨rfl, by decide⟩)) (Or.inr ⟨rfl, by decide⟩)) (Or.inr ⟨rfl, by decide⟩)
  obtain ⟨σ7, g1, g2, g3⟩ := cp 145 156 9 (up (up (up σ5 141 6 (plI (rWl r))) 141 7 (nI (rBe r))) 141 8 (nI (rSn r))) (by decide) (by decide) (by decide) (by decide)
  rw [show J_X8_copies 145 0 156 0 9 (up (up (up σ5 141 6 (plI (rWl r))) 141 7 (nI (rBe r))) 141 8 (nI (rSn r))) = _ from g1, bd2_s]
  have F7 : Fs Rse σ σ7 := F6.tr (g3.mono fun a j z => Or.inl ⟨by omega, by omega⟩)
  -- the land of the model stands
  have e6 : ∀ j, (up (up (up σ5 141 6 (plI (rWl r))) 141 7 (nI (rBe r))) 141 8 (nI (rSn r))) 141 j = if j = 8 then nI (rSn r) else if j = 7 then nI (rBe r) else if j = 6 then plI (rWl r) else σ5 141 j := by
    intro j
    by_cases q8 : j = 8
    · rw [if_pos q8, q8, up_s]
    · rw [if_neg q8, up_i q8]
      by_cases q7 : j = 7
      · rw [if_pos q7, q7, up_s]
      · rw [if_neg q7, up_i q7]
        by_cases q6 : j = 6
        · rw [if_pos q6, q6, up_s]
        · rw [if_neg q6, up_i q6]
  have e5 : ∀ j, σ5 141 j = if j = 3 then nI (rB r) else σ1 141 j := by
    intro j
    rw [e3 141 j (show ¬ 141 = 144 by decide), d3 141 j (show ¬ 141 = 143 by decide)]
    by_cases q3 : j = 3
    · rw [if_pos q3, q3, up_s]
    · rw [if_neg q3, up_i q3, b3 141 j (show ¬ 141 = 142 by decide)]
  have v0 : σ7 141 0 = nI (rQ r) := by rw [g3 141 0 (show ¬ 141 = 145 by decide), e6, if_neg (by decide), if_neg (by decide), if_neg (by decide), e5, if_neg (by decide)]; exact a0
  have v1 : σ7 141 1 = nI (rW r) := by rw [g3 141 1 (show ¬ 141 = 145 by decide), e6, if_neg (by decide), if_neg (by decide), if_neg (by decide), e5, if_neg (by decide)]; exact a1
  have v3 : σ7 141 3 = nI (rB r) := by rw [g3 141 3 (show ¬ 141 = 145 by decide), e6, if_neg (by decide), if_neg (by decide), if_neg (by decide), e5, if_pos rfl]
  have v6 : σ7 141 6 = plI (rWl r) := by rw [g3 141 6 (show ¬ 141 = 145 by decide), e6, if_neg (by decide), if_neg (by decide), if_pos rfl]
  have v7 : σ7 141 7 = nI (rBe r) := by rw [g3 141 7 (show ¬ 141 = 145 by decide), e6, if_neg (by decide), if_pos rfl]
  have v8 : σ7 141 8 = nI (rSn r) := by rw [g3 141 8 (show ¬ 141 = 145 by decide), e6, if_pos rfl]
  have w142 : ∀ x, x < rQ r → σ7 142 x = nI (rG r x) := fun x hx => by
    rw [g3 142 x (show ¬ 142 = 145 by decide), up_n (by decide), up_n (by decide), up_n (by decide), e3 142 x (show ¬ 142 = 144 by decide), d3 142 x (show ¬ 142 = 143 by decide), up_n (by decide), b2 x (by omega)]
    exact rm1.2.2.2.2.2.2.1 x hx
  have w143 : ∀ b, b < rB r → σ7 143 b = nI (rK r b) := fun b hb => by
    rw [g3 143 b (show ¬ 143 = 145 by decide), up_n (by decide), up_n (by decide), up_n (by decide), e3 143 b (show ¬ 143 = 144 by decide), d2 b (by omega)]
    exact ((rm.se F3).2.2.2.2.2.2.2.1 b hb).1
  have w144 : ∀ b, b < rB r → σ7 144 b = nI (rV r b) := fun b hb => by
    rw [g3 144 b (show ¬ 144 = 145 by decide), up_n (by decide), up_n (by decide), up_n (by decide), e2 b (by omega)]
    exact ((rm.se F4).2.2.2.2.2.2.2.1 b hb).2.1
  have w145 : ∀ k, k < rSn r → σ7 145 k = nI (rS r k) := fun k hk => by
    have s9 := ok.2.2.2.2.2.2.2.2.1
    rw [g2 k (by omega)]
    exact (rm.se F6).2.2.2.2.2.2.2.2 k hk
  have lm : LM σ7 (laΛ r) := ⟨v0, v1, v3, v6, v7, v8, w142, w143, w144, w145⟩
  have rm7 := rm.se F7
  clear u1 u2 u3
  obtain ⟨σ8, i1, i2, i3, i4⟩ := jm_se110 54 0 FU σ7 rfl (by rw [FU_eq]; decide)
  obtain ⟨σ9, j1, j2, j3⟩ := jm_se131 q36 g9 (rQ r) 0 FU σ8 (by omega) (by rw [FU_eq]; omega) (by rw [i4 141 (by decide)]; exact v0) (fun x hx => by rw [i4 142 (by decide)]; exact w142 x hx)
  have v39 : σ9 141 3 = nI (rB r) := by rw [j3 141 3 (fun z => by have := z.1; omega), i4 141 (by decide)]; exact v3
  obtain ⟨σ10, k1, k2, k3⟩ := jm_se176 b8 8 0 FU σ9 rfl (by rw [FU_eq]; decide) v39
  have F10 : Fs (fun a _ => a = 146) σ7 σ10 := (i4.fs fun a j z => z).tr ((j3.mono fun a j z => z.1).tr (k3.mono fun a j z => z.1))
  have F11 : Fs (fun a j => a = 146 ∨ (a = 141 ∧ (j = 11 ∨ j = 14))) σ7 (up (up σ10 141 11 0) 141 14 0) := Fs.up (P := fun a j => a = 146 ∨ (a = 141 ∧ (j = 11 ∨ j = 14))) (Fs.up (P := fun a j => a = 146 ∨ (a = 141 ∧ (j = 11 ∨ j = 14))) (F10.mono fun a j z => Or.inl z) (Or.inr ⟨rfl, Or.inl rfl⟩)) (Or.inr ⟨rfl, Or.inr rfl⟩)
  refine ⟨up (up σ10 141 11 0) 141 14 0, ?_, lm.frs F11 fun a j z1 z2 z3 w => by omega, ?_, ?_, ?_, F7.tr (F11.mono fun a j z => ?_)⟩
  · rw [show J_X8_settles_b110 FU 0 σ7 = _ from i1, show J_X8_settles_b131 FU 0 σ8 = _ from j1]
    exact k1
  · have st : ∀ m, (up (up σ10 141 11 0) 141 14 0) 146 m = σ10 146 m := fun m => by rw [up_n (by decide), up_n (by decide)]
    refine ⟨?_, fun x hx => ?_, fun b hb => ?_, fun b hb => ?_, ?_⟩
    · rw [st, k3 146 0 (fun z => by have := z.2.1; omega), j3 146 0 (fun z => by have := z.2.1; omega), i2 0 (by decide) (by decide)]; rfl
    · have hx' : x < rQ r := hx
      rw [st, Nat.zero_add, k3 146 (1 + x) (fun z => by have := z.2.1; omega)]
      exact j2 x (Nat.zero_le _) hx
    · rw [st, Nat.zero_add, k2 b (Nat.zero_le _) hb, j3 155 b (fun z => by have := z.1; omega), i4 155 (by decide)]
      exact (rm7.2.2.2.2.2.2.2.1 b hb).2.2
    · have hb' : b < rB r := hb
      rw [st, Nat.zero_add, k3 146 (45 + b) (fun z => by have := z.2.2; omega), j3 146 (45 + b) (fun z => by have := z.2.2; omega), i2 (45 + b) (by omega) (by omega)]; rfl
    · rw [st, k3 146 (0 + 53) (fun z => by have := z.2.2; omega), j3 146 (0 + 53) (fun z => by have := z.2.2; omega), i2 (0 + 53) (by omega) (by omega)]; rfl
  · rw [up_i (by decide), up_s]; rfl
  · rw [up_s]; rfl
  · rcases z with z | z
    · exact Or.inl ⟨by omega, by omega⟩
    · exact Or.inr ⟨z.1, by omega⟩
end LAY
