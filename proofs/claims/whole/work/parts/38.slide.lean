/-! a ram goes on -/
def dstW (S w x way : Nat) : Nat := if way = 0 then x / w else if way = 1 then w - 1 - x % w else if way = 2 then (S - 1 - x) / w else x % w
theorem dstW_next : ∀ w, w < 7 → ∀ r, r < 7 → ∀ x, x < r * w → ∀ way, way < 4 → (nextW (r * w) w x way = 36 ∨ dstW (r * w) w (nextW (r * w) w x way) way + 1 = dstW (r * w) w x way) ∧ dstW (r * w) w x way ≤ 5 := by decide +kernel
def dstN (Λ : LT) (x way : Nat) : Nat := dstW (lSq Λ) (lWd Λ) x way
theorem dstN_next {Λ : LT} (hΛ : LOK Λ) {x way : Nat} (hx : x < lSq Λ) (hw : way < 4) : (nextN Λ x way = 36 ∨ dstN Λ (nextN Λ x way) way + 1 = dstN Λ x way) ∧ dstN Λ x way ≤ 5 := by
  obtain ⟨⟨w1, w2⟩, ⟨r, r1, r2, e⟩, -⟩ := hΛ
  unfold nextN dstN
  rw [e] at hx ⊢
  exact dstW_next _ (by omega) r (by omega) x hx way hw
def slideN (Λ : LT) (s : ST) (b way : Nat) (mt : Bool) : Nat → Nat → Nat
  | 0, to => to
  | k + 1, to => if onN Λ s to = 8 ∧ sG s to = 0 then (if stepN Λ s b to way mt = 36 then to else slideN Λ s b way mt k (stepN Λ s b to way mt)) else to
theorem up_up {σ : Sg} {c k : Nat} {v w : Int32} : up (up σ c k v) c k w = up σ c k w := by
  funext a j
  unfold up
  split <;> rfl
theorem up_id {σ : Sg} {c k : Nat} : up σ c k (σ c k) = σ := by
  funext a j
  unfold up
  split
  · rename_i h
    rw [h.1, h.2]
  · rfl
section SLIDE
variable {σ : Sg} {c : Nat} {Λ : LT} {s : ST}
theorem stepN_lt (hΛ : LOK Λ) {b x way : Nat} (hx : x < lSq Λ) (hw : way < 4) (mt : Bool) : stepN Λ s b x way mt = 36 ∨ (stepN Λ s b x way mt = nextN Λ x way ∧ stepN Λ s b x way mt < lSq Λ) := by
  unfold stepN
  by_cases e0 : nextN Λ x way = 36
  · rw [if_pos e0]; exact Or.inl rfl
  · rw [if_neg e0]
    split
    · refine Or.inr ⟨rfl, ?_⟩
      rcases nextN_lt hΛ hx hw with z | z <;> omega
    · exact Or.inl rfl
theorem MS.up32 {v : Int32} (h : MS σ Λ s) : MS (up σ 141 32 v) Λ s := by
  obtain ⟨⟨a1, a2, a3, a4, a5, a6, a7, a8, a9, a10⟩, ⟨b1, b2, b3, b4, b5⟩, hΛ, hs⟩ := h
  refine ⟨⟨?_, ?_, ?_, ?_, ?_, ?_, fun x hx => ?_, fun b hb => ?_, fun b hb => ?_, fun b hb => ?_⟩, ⟨?_, fun x hx => ?_, fun b hb => ?_, fun b hb => ?_, ?_⟩, hΛ, hs⟩
  · rw [up_i (by decide)]; exact a1
  · rw [up_i (by decide)]; exact a2
  · rw [up_i (by decide)]; exact a3
  · rw [up_i (by decide)]; exact a4
  · rw [up_i (by decide)]; exact a5
  · rw [up_i (by decide)]; exact a6
  · rw [up_n (by decide)]; exact a7 x hx
  · rw [up_n (by decide)]; exact a8 b hb
  · rw [up_n (by decide)]; exact a9 b hb
  · rw [up_n (by decide)]; exact a10 b hb
  · rw [up_n (by decide)]; exact b1
  · rw [up_n (by decide)]; exact b2 x hx
  · rw [up_n (by decide)]; exact b3 b hb
  · rw [up_n (by decide)]; exact b4 b hb
  · rw [up_n (by decide)]; exact b5
theorem jm_slide (h : MS σ Λ s) {b way : Nat} (hb : b < lNb Λ) (hw : way < 4) (mt : Bool) : ∀ (k to j : Nat), to < lSq Λ → dstN Λ to way ≤ k → k + 2 < j → J_X8_comesTo_b120 j (nI b) (nI way) (bI mt) (nI to) 1 (up σ 141 32 (onI (onN Λ s to))) = some (nI (slideN Λ s b way mt k to), up σ 141 32 (onI (onN Λ s (slideN Λ s b way mt k to)))) := by
  have h8 := h.nb8
  have h36 := h.sq36
  intro k
  induction k with
  | zero =>
    intro to j ht hd hj
    obtain ⟨j, rfl⟩ : ∃ i, j = i + 2 := ⟨j - 2, by omega⟩
    have hn : nextN Λ to way = 36 := by rcases (dstN_next h.2.2.1 ht hw).1 with z | z <;> omega
    have hst : stepN Λ s b to way mt = 36 := by unfold stepN; rw [if_pos hn]
    have hu : MS (up σ 141 32 (onI (onN Λ s to))) Λ s := h.up32
    rw [J_X8_comesTo_b120, if_neg (by decide), up_s]
    unfold slideN
    rcases onN_cases (s := s) h8 to with e2 | e2
    · have q2 : ¬ (0 : Int32) ≤ onI (onN Λ s to) := by rw [e2]; decide
      rw [if_neg q2, li_1, nI_add, if_pos ((inb_nI (by omega)).mpr (by omega)), nI_clamp (by omega), hu.gr ht]
      by_cases e3 : sG s to = 0
      · rw [if_pos (neq li_0 e3), jm_stepTo hu hb ht hw mt, bd1_s, hst, if_pos (by decide)]
        unfold J_X8_comesTo_b180
        rw [if_pos rfl, up_up, up_s]
        show J_X8_comesTo_b120 (j + 1) (nI b) (nI way) (bI mt) (nI to) 0 _ = _
        rw [J_X8_comesTo_b120, if_pos rfl]
      · have g8 := (h.2.2.2.1 to ht).1
        rw [if_neg (nne li_0 (by omega) (by omega) e3)]
    · have q2 : (0 : Int32) ≤ onI (onN Λ s to) := by
        have : onI (onN Λ s to) = nI (onN Λ s to) := if_neg (by omega)
        rw [this]; exact nI_ge0 (by omega)
      rw [if_pos q2]
  | succ k ih =>
    intro to j ht hd hj
    obtain ⟨j, rfl⟩ : ∃ i, j = i + 2 := ⟨j - 2, by omega⟩
    have hu : MS (up σ 141 32 (onI (onN Λ s to))) Λ s := h.up32
    rw [J_X8_comesTo_b120, if_neg (by decide), up_s]
    rcases onN_cases (s := s) h8 to with e2 | e2
    · have q2 : ¬ (0 : Int32) ≤ onI (onN Λ s to) := by rw [e2]; decide
      rw [if_neg q2]
      rw [show (1 : Int32) + nI to = nI (1 + to) by rw [li_1, nI_add], if_pos ((inb_nI (by omega)).mpr (by omega)), nI_clamp (by omega), hu.gr ht]
      by_cases e3 : sG s to = 0
      · rw [if_pos (neq li_0 e3), jm_stepTo hu hb ht hw mt, bd1_s]
        rcases stepN_lt (s := s) (b := b) h.2.2.1 ht hw mt with e4 | ⟨e4, e5⟩
        · rw [e4, if_pos (by decide)]
          unfold J_X8_comesTo_b180
          rw [if_pos rfl, up_up, up_s]
          show J_X8_comesTo_b120 (j + 1) (nI b) (nI way) (bI mt) (nI to) 0 _ = _
          rw [J_X8_comesTo_b120, if_pos rfl]
          have e6 : slideN Λ s b way mt (k + 1) to = to := by unfold slideN; rw [if_pos ⟨e2, e3⟩, if_pos e4]
          rw [e6]
        · have e7 : ¬ stepN Λ s b to way mt = 36 := by omega
          have e6 : slideN Λ s b way mt (k + 1) to = slideN Λ s b way mt k (stepN Λ s b to way mt) := by
            rw [slideN, if_pos ⟨e2, e3⟩, if_neg e7]
          rw [plI_of e7, if_neg (nI_nlt0 (by omega))]
          unfold J_X8_comesTo_b180
          rw [if_neg (by decide), jm_onIt hu (by omega), bd1_s, up_up, e6]
          refine ih _ (j + 1) e5 ?_ (by omega)
          rcases (dstN_next h.2.2.1 ht hw).1 with z | z
          · omega
          · rw [e4]; omega
      · have g8 := (h.2.2.2.1 to ht).1
        rw [if_neg (nne li_0 (by omega) (by omega) e3)]
        have e6 : slideN Λ s b way mt (k + 1) to = to := by unfold slideN; rw [if_neg (fun z => e3 z.2)]
        rw [e6]
    · have q2 : (0 : Int32) ≤ onI (onN Λ s to) := by
        have : onI (onN Λ s to) = nI (onN Λ s to) := if_neg (by omega)
        rw [this]; exact nI_ge0 (by omega)
      have e6 : slideN Λ s b way mt (k + 1) to = to := by unfold slideN; rw [if_neg (fun z => by omega)]
      rw [if_pos q2, e6]
end SLIDE
