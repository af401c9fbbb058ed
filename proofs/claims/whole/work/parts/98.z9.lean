/-! the model told of the first text -/
section TOLD
variable {σ σ' : Sg}
def Rx (a j : Nat) : Prop := 142 ≤ a ∨ (a = 141 ∧ j ≠ 17)
def MB (σ : Sg) (q w b be sn wl : Nat) : Prop := RM σ (rr q w b be sn wl) ∧ ∀ k, σ 156 k = 0
theorem jz33 : ∀ (k i j : Nat) (σ : Sg), i + k = 9 → k < j → (∀ k, σ 156 k = 0) → J_X8_clearTold_b33 j (nI i) σ = some ((), σ) := by
  intro k
  induction k with
  | zero =>
    intro i j σ hi hj hz
    obtain ⟨j, rfl⟩ : ∃ i, j = i + 1 := ⟨j - 1, by omega⟩
    rw [J_X8_clearTold_b33, if_pos (show (9 : Int32) ≤ nI i from by rw [li_9, nI_leI (by omega) (by omega)]; omega)]
  | succ k ih =>
    intro i j σ hi hj hz
    obtain ⟨j, rfl⟩ : ∃ i, j = i + 1 := ⟨j - 1, by omega⟩
    rw [J_X8_clearTold_b33, if_neg (show ¬ (9 : Int32) ≤ nI i from by rw [li_9, nI_leI (by omega) (by omega)]; omega), if_pos ((inb_nI (by omega)).mpr (by omega)), nI_clamp (by omega), show nI i + (1 : Int32) = nI (i + 1) from by rw [li_1, nI_add], up_z (hz i)]
    exact ih (i + 1) j σ (by omega) (by omega) hz
theorem jz_clear (hz : ∀ a, 141 ≤ a → ∀ k, σ a k = 0) : ∃ σ', J_X8_clearTold σ = some ((), σ') ∧ MB σ' 0 0 0 4 0 36 ∧ Fs Rx σ σ' := by
  have F : Fs Rx σ (up (up (up (up (up (up σ 141 20 0) 141 21 0) 141 23 0) 141 27 (-4)) 141 28 4) 141 29 0) :=
    Fs.up (P := Rx) (Fs.up (P := Rx) (Fs.up (P := Rx) (Fs.up (P := Rx) (Fs.up (P := Rx) (Fs.up (P := Rx) Fs.rf (Or.inr ⟨rfl, by decide⟩)) (Or.inr ⟨rfl, by decide⟩)) (Or.inr ⟨rfl, by decide⟩)) (Or.inr ⟨rfl, by decide⟩)) (Or.inr ⟨rfl, by decide⟩)) (Or.inr ⟨rfl, by decide⟩)
  have z6 : ∀ k, (up (up (up (up (up (up σ 141 20 0) 141 21 0) 141 23 0) 141 27 (-4)) 141 28 4) 141 29 0) 156 k = 0 := by
    intro k
    rw [up_n (by decide), up_n (by decide), up_n (by decide), up_n (by decide), up_n (by decide), up_n (by decide)]
    exact hz 156 (by decide) k
  refine ⟨_, ?_, ⟨⟨rfl, rfl, rfl, rfl, rfl, rfl, fun x hx => absurd hx (Nat.not_lt_zero x), fun b hb => absurd hb (Nat.not_lt_zero b), fun k hk => absurd hk (Nat.not_lt_zero k)⟩, z6⟩, F⟩
  unfold J_X8_clearTold
  exact jz33 9 0 FU _ rfl (by rw [FU_eq]; decide) z6
theorem t9 {k q i : Nat} {x : Int32} (hσ : σ 141 20 = nI q) (h : q + i < 36) : J_X8_tellsRow_b9 (k + 1) x (nI i) σ = J_X8_tellsRow_b9 k (x / 10) (nI i + (-1)) (up σ 152 (q + i) (rmI x 10)) := by
  rw [J_X8_tellsRow_b9, if_neg (nI_nlt0 (by omega)), hσ, nI_add, if_pos ((inb_nI (by omega)).mpr h), nI_clamp (by omega)]
theorem t90 {k q : Nat} {x : Int32} (hσ : σ 141 20 = nI q) : J_X8_tellsRow_b9 (k + 1) x (-1) σ = some ((), up σ 141 20 (nI (q + 5))) := by
  rw [J_X8_tellsRow_b9, if_pos (by decide), hσ, show (5 : Int32) = nI 5 from rfl, nI_add]
theorem jz_row {q : Nat} {a d4 d3 d2 d1 d0 : Int32} (h : q + 5 ≤ 36) (hσ : σ 141 20 = nI q) (e4 : rmI a 10 = d4) (e3 : rmI (a / 10) 10 = d3) (e2 : rmI (a / 10 / 10) 10 = d2) (e1 : rmI (a / 10 / 10 / 10) 10 = d1) (e0 : rmI (a / 10 / 10 / 10 / 10) 10 = d0) : J_X8_tellsRow a σ = some ((), up (up (up (up (up (up (up σ 141 21 5) 152 (q + 4) d4) 152 (q + 3) d3) 152 (q + 2) d2) 152 (q + 1) d1) 152 (q + 0) d0) 141 20 (nI (q + 5))) := by
  have c0 : (up σ 141 21 5) 141 20 = nI q := by rw [up_i (by decide)]; exact hσ
  unfold J_X8_tellsRow
  show J_X8_tellsRow_b9 (999999999999999 + 1) a (nI 4) (up σ 141 21 5) = _
  rw [t9 c0 (by omega), e4, show nI 4 + (-1) = nI 3 from by decide]
  have c1 : (up (up σ 141 21 5) 152 (q + 4) d4) 141 20 = nI q := by rw [up_n (by decide)]; exact c0
  show J_X8_tellsRow_b9 (999999999999998 + 1) _ (nI 3) _ = _
  rw [t9 c1 (by omega), e3, show nI 3 + (-1) = nI 2 from by decide]
  have c2 : (up (up (up σ 141 21 5) 152 (q + 4) d4) 152 (q + 3) d3) 141 20 = nI q := by rw [up_n (by decide)]; exact c1
  show J_X8_tellsRow_b9 (999999999999997 + 1) _ (nI 2) _ = _
  rw [t9 c2 (by omega), e2, show nI 2 + (-1) = nI 1 from by decide]
  have c3 : (up (up (up (up σ 141 21 5) 152 (q + 4) d4) 152 (q + 3) d3) 152 (q + 2) d2) 141 20 = nI q := by rw [up_n (by decide)]; exact c2
  show J_X8_tellsRow_b9 (999999999999996 + 1) _ (nI 1) _ = _
  rw [t9 c3 (by omega), e1, show nI 1 + (-1) = nI 0 from by decide]
  have c4 : (up (up (up (up (up σ 141 21 5) 152 (q + 4) d4) 152 (q + 3) d3) 152 (q + 2) d2) 152 (q + 1) d1) 141 20 = nI q := by rw [up_n (by decide)]; exact c3
  show J_X8_tellsRow_b9 (999999999999995 + 1) _ (nI 0) _ = _
  rw [t9 c4 (by omega), e0, show nI 0 + (-1) = -1 from by decide]
  have c5 : (up (up (up (up (up (up σ 141 21 5) 152 (q + 4) d4) 152 (q + 3) d3) 152 (q + 2) d2) 152 (q + 1) d1) 152 (q + 0) d0) 141 20 = nI q := by rw [up_n (by decide)]; exact c4
  show J_X8_tellsRow_b9 (999999999999994 + 1) _ (-1) _ = _
  rw [t90 c5]
theorem mb_row {q w : Nat} {a : Int32} (m : MB σ q w 0 4 0 36) (h : q + 5 ≤ 36) (e4 : rmI a 10 = nI (G1 (q + 4))) (e3 : rmI (a / 10) 10 = nI (G1 (q + 3))) (e2 : rmI (a / 10 / 10) 10 = nI (G1 (q + 2))) (e1 : rmI (a / 10 / 10 / 10) 10 = nI (G1 (q + 1))) (e0 : rmI (a / 10 / 10 / 10 / 10) 10 = nI (G1 (q + 0))) : ∃ σ', J_X8_tellsRow a σ = some ((), σ') ∧ MB σ' (q + 5) 5 0 4 0 36 ∧ Fs Rx σ σ' := by
  obtain ⟨⟨c0, c1, c2, c3, c4, c5, c6, c7, c8⟩, z⟩ := m
  refine ⟨_, jz_row h c0 e4 e3 e2 e1 e0, ⟨⟨up_s, ?_, ?_, ?_, ?_, ?_, fun x hx => ?_, fun b hb => absurd hb (Nat.not_lt_zero b), fun k hk => absurd hk (Nat.not_lt_zero k)⟩, fun k => ?_⟩, ?_⟩
  · rw [up_i (by decide), up_n (by decide), up_n (by decide), up_n (by decide), up_n (by decide), up_n (by decide), up_s]; rfl
  · rw [up_i (by decide), up_n (by decide), up_n (by decide), up_n (by decide), up_n (by decide), up_n (by decide), up_i (by decide)]; exact c2
  · rw [up_i (by decide), up_n (by decide), up_n (by decide), up_n (by decide), up_n (by decide), up_n (by decide), up_i (by decide)]; exact c3
  · rw [up_i (by decide), up_n (by decide), up_n (by decide), up_n (by decide), up_n (by decide), up_n (by decide), up_i (by decide)]; exact c4
  · rw [up_i (by decide), up_n (by decide), up_n (by decide), up_n (by decide), up_n (by decide), up_n (by decide), up_i (by decide)]; exact c5
  · have hx' : x < q + 5 := hx
    show _ = nI (G1 x)
    rw [up_n (by decide)]
    rcases (show x < q ∨ x = q + 0 ∨ x = q + 1 ∨ x = q + 2 ∨ x = q + 3 ∨ x = q + 4 by omega) with e | e | e | e | e | e
    · rw [up_i (show x ≠ q + 0 by omega), up_i (show x ≠ q + 1 by omega), up_i (show x ≠ q + 2 by omega), up_i (show x ≠ q + 3 by omega), up_i (show x ≠ q + 4 by omega), up_n (by decide)]
      exact c6 x e
    · rw [e, up_s]
    · rw [e, up_i (show q + 1 ≠ q + 0 by omega), up_s]
    · rw [e, up_i (show q + 2 ≠ q + 0 by omega), up_i (show q + 2 ≠ q + 1 by omega), up_s]
    · rw [e, up_i (show q + 3 ≠ q + 0 by omega), up_i (show q + 3 ≠ q + 1 by omega), up_i (show q + 3 ≠ q + 2 by omega), up_s]
    · rw [e, up_i (show q + 4 ≠ q + 0 by omega), up_i (show q + 4 ≠ q + 1 by omega), up_i (show q + 4 ≠ q + 2 by omega), up_i (show q + 4 ≠ q + 3 by omega), up_s]
  · rw [up_n (by decide), up_n (by decide), up_n (by decide), up_n (by decide), up_n (by decide), up_n (by decide), up_n (by decide)]; exact z k
  · exact Fs.up (P := Rx) (Fs.up (P := Rx) (Fs.up (P := Rx) (Fs.up (P := Rx) (Fs.up (P := Rx) (Fs.up (P := Rx) (Fs.up (P := Rx) Fs.rf (Or.inr ⟨rfl, by decide⟩)) (Or.inl (by decide))) (Or.inl (by decide))) (Or.inl (by decide))) (Or.inl (by decide))) (Or.inl (by decide))) (Or.inr ⟨rfl, by decide⟩)
theorem mb_bea {q w b : Nat} {k v x : Int32} (m : MB σ q w b 4 0 36) (h : b < 8) (ek : k = nI (K1 b)) (ev : v = nI (V1 b)) (ex : x = nI (X1 b)) : ∃ σ', J_X8_tellsBeast k v x σ = some ((), σ') ∧ MB σ' q w (b + 1) 4 0 36 ∧ Fs Rx σ σ' := by
  obtain ⟨⟨c0, c1, c2, c3, c4, c5, c6, c7, c8⟩, z⟩ := m
  have i8 : inb (nI b) 8 = true := (inb_nI (by omega)).mpr h
  have c23 : σ 141 23 = nI b := c2
  refine ⟨up (up (up (up σ 153 b k) 154 b v) 155 b x) 141 23 (nI (b + 1)), ?_, ⟨⟨?_, ?_, up_s, ?_, ?_, ?_, fun x' hx => ?_, fun b' hb => ?_, fun k hk => absurd hk (Nat.not_lt_zero k)⟩, fun k => ?_⟩, ?_⟩
  · unfold J_X8_tellsBeast
    simp only [up_n (show (141 : Nat) ≠ 153 by decide), up_n (show (141 : Nat) ≠ 154 by decide), up_n (show (141 : Nat) ≠ 155 by decide), c23, nI_clamp (show b < 2 ^ 31 by omega), i8, ↓reduceIte]
    rw [show nI b + (1 : Int32) = nI (b + 1) from by rw [li_1, nI_add]]
  · rw [up_i (by decide), up_n (by decide), up_n (by decide), up_n (by decide)]; exact c0
  · rw [up_i (by decide), up_n (by decide), up_n (by decide), up_n (by decide)]; exact c1
  · rw [up_i (by decide), up_n (by decide), up_n (by decide), up_n (by decide)]; exact c3
  · rw [up_i (by decide), up_n (by decide), up_n (by decide), up_n (by decide)]; exact c4
  · rw [up_i (by decide), up_n (by decide), up_n (by decide), up_n (by decide)]; exact c5
  · rw [up_n (by decide), up_n (by decide), up_n (by decide), up_n (by decide)]; exact c6 x' hx
  · have hb' : b' < b + 1 := hb
    show _ = nI (K1 b') ∧ _ = nI (V1 b') ∧ _ = nI (X1 b')
    have g1 : (up (up (up (up σ 153 b k) 154 b v) 155 b x) 141 23 (nI (b + 1))) 153 b' = (up σ 153 b k) 153 b' := by rw [up_n (by decide), up_n (by decide), up_n (by decide)]
    have g2 : (up (up (up (up σ 153 b k) 154 b v) 155 b x) 141 23 (nI (b + 1))) 154 b' = (up (up σ 153 b k) 154 b v) 154 b' := by rw [up_n (by decide), up_n (by decide)]
    have g3 : (up (up (up (up σ 153 b k) 154 b v) 155 b x) 141 23 (nI (b + 1))) 155 b' = (up (up (up σ 153 b k) 154 b v) 155 b x) 155 b' := by rw [up_n (by decide)]
    rw [g1, g2, g3]
    by_cases e : b' = b
    · rw [e, up_s, up_s, up_s]
      exact ⟨ek, ev, ex⟩
    · rw [up_i e, up_i e, up_i e, up_n (show (154 : Nat) ≠ 153 by decide), up_n (show (155 : Nat) ≠ 154 by decide), up_n (show (155 : Nat) ≠ 153 by decide)]
      exact c7 b' (by show b' < b; omega)
  · rw [up_n (by decide), up_n (by decide), up_n (by decide), up_n (by decide)]; exact z k
  · exact Fs.up (P := Rx) (Fs.up (P := Rx) (Fs.up (P := Rx) (Fs.up (P := Rx) Fs.rf (Or.inl (by decide))) (Or.inl (by decide))) (Or.inl (by decide))) (Or.inr ⟨rfl, by decide⟩)
end TOLD
