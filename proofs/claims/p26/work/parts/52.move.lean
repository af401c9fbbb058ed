/-! a beast is put on a square; whoever is there is taken -/
def endN (Λ : LT) (v x : Nat) : Bool := if v = 0 then decide (x < lWd Λ) else decide (lSq Λ - lWd Λ ≤ x)
def turnE (Λ : LT) (b x : Nat) (e : Nat) : Nat := if lKd Λ b = 2 ∧ endN Λ (lVl Λ b) x = true then e ||| 2 ^ b else e
def movS (Λ : LT) (s : ST) (b x : Nat) : ST := (sD s, sG s, fun a => if a = b then x else if a = onN Λ s x then 36 else sP s a, sH s, turnE Λ b x (sE s))
theorem turnE_bit {Λ : LT} {b x e a : Nat} : (turnE Λ b x e).testBit a = ((e.testBit a) || (decide (a = b) && (decide (lKd Λ b = 2) && endN Λ (lVl Λ b) x))) := by
  unfold turnE
  by_cases h : lKd Λ b = 2 ∧ endN Λ (lVl Λ b) x = true
  · rw [if_pos h, Nat.testBit_or, Nat.testBit_two_pow, h.2]
    simp only [h.1, decide_true, Bool.and_true]
    by_cases e : a = b
    · simp [e]
    · have e' : ¬ b = a := fun z => e z.symm
      simp [e, e']
  · rw [if_neg h]
    by_cases k : lKd Λ b = 2
    · have : endN Λ (lVl Λ b) x = false := by
        cases q : endN Λ (lVl Λ b) x
        · rfl
        · exact absurd ⟨k, q⟩ h
      simp [this]
    · simp [k]
theorem turnE_lt {Λ : LT} {b x e : Nat} (hb : b < 8) (he : e < 256) : turnE Λ b x e < 256 := by
  unfold turnE
  split
  · have h1 : 2 ^ b < 2 ^ 8 := Nat.pow_lt_pow_right (by decide) hb
    exact Nat.or_lt_two_pow (n := 8) he h1
  · exact he
theorem movS_ok {Λ : LT} {s : ST} (hΛ : LOK Λ) (h : SOK Λ s) {b x : Nat} (hb : b < lNb Λ) (hp : sP s b ≠ 36) (hx : x < lSq Λ) (m9 : lM Λ x ≠ 9) : SOK Λ (movS Λ s b x) := by
  have h36 := hΛ.sq.2.1
  have h8 := hΛ.2.2.1.2
  obtain ⟨g, p, d, u, e⟩ := h
  refine ⟨g, fun a ha => ?_, fun a a' ha ha' => ?_, fun a ha => ⟨(u a ha).1, fun z => ?_⟩, turnE_lt (by omega) e⟩
  · show (if a = b then x else if a = onN Λ s x then 36 else sP s a) = 36 ∨ (if a = b then x else if a = onN Λ s x then 36 else sP s a) < lSq Λ ∧ lM Λ (if a = b then x else if a = onN Λ s x then 36 else sP s a) ≠ 9
    by_cases e1 : a = b
    · rw [if_pos e1]; exact Or.inr ⟨hx, m9⟩
    · rw [if_neg e1]
      by_cases e2 : a = onN Λ s x
      · rw [if_pos e2]; exact Or.inl rfl
      · rw [if_neg e2]; exact p a ha
  · show (if a = b then x else if a = onN Λ s x then 36 else sP s a) = (if a' = b then x else if a' = onN Λ s x then 36 else sP s a') → (if a = b then x else if a = onN Λ s x then 36 else sP s a) ≠ 36 → a = a'
    have own : ∀ y, y < lNb Λ → sP s y = x → y = onN Λ s x := by
      intro y hy ey
      rcases onN_spec Λ s x h8 with ⟨z1, z2⟩ | ⟨z1, z2⟩
      · exact absurd ey (z2 y hy)
      · exact d y _ hy z1 (ey.trans z2.symm) (by omega)
    by_cases e1 : a = b
    · rw [if_pos e1]
      by_cases f1 : a' = b
      · intro _ _; omega
      · rw [if_neg f1]
        by_cases f2 : a' = onN Λ s x
        · rw [if_pos f2]; intro q; omega
        · rw [if_neg f2]; intro q; exact absurd (own a' ha' q.symm) f2
    · rw [if_neg e1]
      by_cases e2 : a = onN Λ s x
      · rw [if_pos e2]; intro _ q; exact absurd rfl q
      · rw [if_neg e2]
        by_cases f1 : a' = b
        · rw [if_pos f1]; intro q _; exact absurd (own a ha q) e2
        · rw [if_neg f1]
          by_cases f2 : a' = onN Λ s x
          · rw [if_pos f2]; intro q r; exact absurd q r
          · rw [if_neg f2]; exact d a a' ha ha'
  · have z' : (if a = b then x else if a = onN Λ s x then 36 else sP s a) ≠ 36 := z
    show sH s a ≤ lBe Λ
    by_cases e1 : a = b
    · rw [e1]; exact (u b hb).2 hp
    · rw [if_neg e1] at z'
      by_cases e2 : a = onN Λ s x
      · rw [if_pos e2] at z'; exact absurd rfl z'
      · rw [if_neg e2] at z'; exact (u a ha).2 z'
theorem lnd_lt {c : Nat} (hc : 9 ≤ c) : lnd c + 2 < c := by
  unfold lnd
  split <;> omega
theorem offS_ok {Λ : LT} {s : ST} (h : SOK Λ s) (t : Nat) : SOK Λ (plS s t 36) := by
  obtain ⟨g, p, d, u, e⟩ := h
  refine ⟨g, fun a ha => ?_, fun a a' ha ha' => ?_, fun a ha => ⟨(u a ha).1, fun z => ?_⟩, e⟩
  · show (if a = t then 36 else sP s a) = 36 ∨ (if a = t then 36 else sP s a) < lSq Λ ∧ lM Λ (if a = t then 36 else sP s a) ≠ 9
    by_cases e1 : a = t
    · rw [if_pos e1]; exact Or.inl rfl
    · rw [if_neg e1]; exact p a ha
  · show (if a = t then 36 else sP s a) = (if a' = t then 36 else sP s a') → (if a = t then 36 else sP s a) ≠ 36 → a = a'
    by_cases e1 : a = t
    · rw [if_pos e1]; intro _ q; exact absurd rfl q
    · rw [if_neg e1]
      by_cases f1 : a' = t
      · rw [if_pos f1]; intro q r; exact absurd q r
      · rw [if_neg f1]; exact d a a' ha ha'
  · have z' : (if a = t then 36 else sP s a) ≠ 36 := z
    show sH s a ≤ lBe Λ
    by_cases e1 : a = t
    · rw [if_pos e1] at z'; exact absurd rfl z'
    · rw [if_neg e1] at z'; exact (u a ha).2 z'
section MOVE
variable {σ : Sg} {c : Nat} {Λ : LT} {s : ST}
theorem jl_hasBeast {l b : Nat} (hn : σ l 3 = nI (lNb Λ)) (h8 : lNb Λ ≤ 8) (hb : b < lNb Λ) : J_X1_hasBeast l (nI b) σ = some 1 := by
  unfold J_X1_hasBeast
  rw [if_neg (nI_nlt0 (by omega)), hn, if_neg (fun z => by have := (nI_leI (by omega) (by omega)).mp z; omega), if_neg (show ¬ (8 : Int32) ≤ nI b from by rw [li_8, nI_leI (by omega) (by omega)]; omega)]
theorem jl_turns {l v x : Nat} (hΛ : LOK Λ) (h0 : σ l 0 = nI (lSq Λ)) (h1 : σ l 1 = nI (lWd Λ)) (hv : v ≤ 1) (hx : x < lSq Λ) : J_X1_turnsPawn l (nI v) (nI x) σ = some (bI (endN Λ v x)) := by
  have q := hΛ.sq
  unfold J_X1_turnsPawn endN
  rw [h0, h1]
  by_cases e : v = 0
  · rw [if_pos (neq li_0 e), if_pos e]
    by_cases e2 : x < lWd Λ
    · rw [if_neg (fun z => by have := (nI_leI (by omega) (by omega)).mp z; omega)]
      simp [e2, bI]
    · rw [if_pos ((nI_leI (by omega) (by omega)).mpr (by omega))]
      simp [e2, bI]
  · rw [if_neg (nne li_0 (by omega) (by omega) e), if_neg e, nI_subI q.2.2]
    by_cases e2 : lSq Λ - lWd Λ ≤ x
    · rw [if_neg (fun z => by have := (nI_ltI (by omega) (by omega)).mp z; omega)]
      simp [e2, bI]
    · rw [if_pos ((nI_ltI (by omega) (by omega)).mpr (by omega))]
      simp only [e2, bI]
      rfl
theorem jc_put {b : Nat} {x k : Int32} (hn : σ (lnd c) 3 = nI (lNb Λ)) (h8 : lNb Λ ≤ 8) (hb : b < lNb Λ) : J_X2_put c (nI b) x k σ = some ((), up (up σ (c + 2) b x) (c + 3) b k) := by
  unfold J_X2_put
  rw [jl_hasBeast hn h8 hb, bd1_s, if_neg (by decide), if_pos ((inb_nI (by omega)).mpr (by omega)), if_pos ((inb_nI (by omega)).mpr (by omega)), nI_clamp (by omega)]
theorem MC.p8 {t v : Nat} (ht : lNb Λ ≤ t) (h : MC σ c Λ s) : MC σ c Λ (plS s t v) := by
  obtain ⟨m0, m1, m2, m3, m4⟩ := h
  refine ⟨m0, m1, fun b hb => ?_, m3, m4⟩
  show _ = plI (if b = t then v else sP s b)
  rw [if_neg (by omega)]
  exact m2 b hb
/-- the kind that one is behind a move -/
def movK (Λ : LT) (s : ST) (b x : Nat) : Nat := if kdN Λ s b = 2 ∧ endN Λ (lVl Λ b) x = true then 1 else kdN Λ s b
theorem movK_ok {b x : Nat} (a : Nat) : kdN Λ (ewS s (turnE Λ b x (sE s))) a = if a = b then movK Λ s b x else kdN Λ s a := by
  unfold kdN movK kdN
  show (if lKd Λ a = 2 ∧ (turnE Λ b x (sE s)).testBit a = true then 1 else lKd Λ a) = _
  rw [turnE_bit]
  by_cases e : a = b
  · rw [if_pos e, e]
    by_cases k : lKd Λ b = 2
    · cases (sE s).testBit b <;> cases endN Λ (lVl Λ b) x <;> simp [k]
    · simp [k]
  · rw [if_neg e]
    simp [e]
theorem jc_move25 (h : CC σ c Λ s) (hc : 9 ≤ c) {b x : Nat} (hb : b < lNb Λ) (hx : x < lSq Λ) : J_X2_move_b25 c (nI b) (nI x) σ = some ((), up (up σ (c + 2) b (nI x)) (c + 3) b (nI (movK Λ s b x))) := by
  have h8 := h.nb8
  have k3 := kdN_le (s := s) h.2.2.1 hb
  have v1 := (h.2.2.1.2.2.2.2.2.2.2.1 b hb).2
  unfold J_X2_move_b25 movK
  rw [jc_kindOf h hb, bd1_s]
  by_cases e : kdN Λ s b = 2
  · rw [if_pos (neq li_2 e), jc_villageOf h hb, bd1_s, jl_turns h.2.2.1 h.sq h.wd v1 hx, bd1_s]
    cases q : endN Λ (lVl Λ b) x
    · rw [bI_f, if_pos rfl]
      unfold J_X2_move_b58
      rw [if_pos rfl, jc_kindOf h hb, bd1_s, jc_put h.nb h8 hb, bd2_s]
      simp
    · rw [bI_t, if_neg (by decide)]
      unfold J_X2_move_b58
      rw [if_neg (by decide), jc_put h.nb h8 hb, bd2_s]
      simp [e]
      rfl
  · rw [if_neg (nne li_2 (by omega) (by omega) e)]
    unfold J_X2_move_b58
    rw [if_pos rfl, jc_kindOf h hb, bd1_s, jc_put h.nb h8 hb, bd2_s]
    simp [e]
theorem jc_move (h : CC σ c Λ s) (hc : 9 ≤ c) {b x : Nat} (hb : b < lNb Λ) (hp : sP s b ≠ 36) (hx : x < lSq Λ) (m9 : lM Λ x ≠ 9) : ∃ σ', J_X2_move c (nI b) (nI x) σ = some ((), σ') ∧ CC σ' c Λ (movS Λ s b x) ∧ Fr (fun a => a = c + 2 ∨ a = c + 3) σ σ' := by
  have h8 := h.nb8
  have h36 := h.sq36
  have hl := lnd_lt hc
  have q : plI x = nI x := if_neg (by omega)
  unfold J_X2_move
  rw [jc_occ h (by omega), bd1_s]
  rcases onN_cases (s := s) h8 x with e | e
  · have e1 : onI (onN Λ s x) = -4 := by rw [e]; rfl
    rw [e1]
    have e2 : J_X1_hasBeast (lnd c) (-4 : Int32) σ = some 0 := by
      unfold J_X1_hasBeast
      rw [if_pos (by decide)]
    rw [e2, bd1_s, if_pos rfl, jc_move25 h hc hb hx]
    refine ⟨_, rfl, ⟨LC.up (by omega) (LC.up (by omega) h.1), ?_, h.2.2.1, movS_ok h.2.2.1 h.2.2.2 hb hp hx m9⟩, Fr.up (P := fun a => a = c + 2 ∨ a = c + 3) (Fr.up (P := fun a => a = c + 2 ∨ a = c + 3) Fr.rf (Or.inl rfl)) (Or.inr rfl)⟩
    have r := MC.upK (b := b) (k := movK Λ s b x) (e := turnE Λ b x (sE s)) (fun a _ => movK_ok (s := plS (plS s (onN Λ s x) 36) b x) a) (MC.upP (b := b) (v := x) (MC.p8 (t := onN Λ s x) (v := 36) (by omega) h.2.1))
    rw [q] at r
    exact r
  · have e1 : onI (onN Λ s x) = nI (onN Λ s x) := if_neg (by omega)
    rw [e1, jl_hasBeast h.nb h8 e, bd1_s, if_neg (by decide), if_pos ((inb_nI (by omega)).mpr (by omega)), nI_clamp (by omega)]
    have hm : MC (up σ (c + 2) (onN Λ s x) (-4)) c Λ (plS s (onN Λ s x) 36) := MC.upP (b := onN Λ s x) (v := 36) h.2.1
    have hC : CC (up σ (c + 2) (onN Λ s x) (-4)) c Λ (plS s (onN Λ s x) 36) := ⟨LC.up (by omega) h.1, hm, h.2.2.1, offS_ok h.2.2.2 _⟩
    rw [jc_move25 hC hc hb hx]
    refine ⟨_, rfl, ⟨LC.up (by omega) (LC.up (by omega) hC.1), ?_, h.2.2.1, movS_ok h.2.2.1 h.2.2.2 hb hp hx m9⟩, Fr.up (P := fun a => a = c + 2 ∨ a = c + 3) (Fr.up (P := fun a => a = c + 2 ∨ a = c + 3) (Fr.up (P := fun a => a = c + 2 ∨ a = c + 3) Fr.rf (Or.inl rfl)) (Or.inl rfl)) (Or.inr rfl)⟩
    have r := MC.upK (b := b) (k := movK Λ s b x) (e := turnE Λ b x (sE s)) (fun a _ => movK_ok (s := plS (plS s (onN Λ s x) 36) b x) a) (MC.upP (b := b) (v := x) hm)
    rw [q] at r
    exact r
theorem or_nI : ∀ e, e < 256 → ∀ b, b < 8 → (nI e ||| ((1 : Int32) <<< (nI b &&& 31))) = nI (e ||| 2 ^ b) := by decide +kernel
end MOVE
