/-! all graze -/
def graB (Λ : LT) (s : ST) (b : Nat) : ST := if sP s b = 36 then s else if sG s (sP s b) = 0 then huS (plS s b (if sH s b + 1 ≤ lBe Λ then sP s b else 36)) b (sH s b + 1) else huS (grS s (sP s b) (sG s (sP s b) - 1)) b 0
def graK (Λ : LT) (s : ST) : Nat → ST
  | 0 => s
  | n + 1 => graB Λ (graK Λ s n) n
def graS (Λ : LT) (s : ST) : ST := graK Λ s (lNb Λ)
theorem graB_ok {Λ : LT} {s : ST} (hΛ : LOK Λ) (h : SOK Λ s) {b : Nat} (hb : b < lNb Λ) : SOK Λ (graB Λ s b) := by
  have b9 := hΛ.2.2.2.1
  unfold graB
  by_cases e : sP s b = 36
  · rw [if_pos e]; exact h
  · rw [if_neg e]
    by_cases e2 : sG s (sP s b) = 0
    · rw [if_pos e2]
      by_cases e3 : sH s b + 1 ≤ lBe Λ
      · rw [if_pos e3]
        obtain ⟨g, p, d, u, w⟩ := h
        have eP : sP (huS (plS s b (sP s b)) b (sH s b + 1)) = sP s := by
          funext a
          show (if a = b then sP s b else sP s a) = sP s a
          by_cases e4 : a = b
          · rw [if_pos e4, e4]
          · rw [if_neg e4]
        refine ⟨g, ?_, ?_, fun a ha => ?_, w⟩
        · rw [eP]; exact p
        · rw [eP]; exact d
        · rw [eP]
          show (if a = b then sH s b + 1 else sH s a) ≤ 10 ∧ (sP s a ≠ 36 → (if a = b then sH s b + 1 else sH s a) ≤ lBe Λ)
          by_cases e4 : a = b
          · rw [if_pos e4]; exact ⟨by omega, fun _ => e3⟩
          · rw [if_neg e4]; exact u a ha
      · rw [if_neg e3]
        have h2 := offS_ok h b
        have hu := (h.2.2.2.1 b hb).2 e
        obtain ⟨g, p, d, u, w⟩ := h2
        refine ⟨g, p, d, fun a ha => ?_, w⟩
        show (if a = b then sH s b + 1 else sH s a) ≤ 10 ∧ (sP (plS s b 36) a ≠ 36 → (if a = b then sH s b + 1 else sH s a) ≤ lBe Λ)
        by_cases e4 : a = b
        · rw [if_pos e4, e4]
          refine ⟨by omega, fun z => absurd (show sP (plS s b 36) b = 36 from if_pos rfl) z⟩
        · rw [if_neg e4]; exact u a ha
    · rw [if_neg e2]
      obtain ⟨g, p, d, u, w⟩ := h
      have gb : sP s b < lSq Λ ∧ lM Λ (sP s b) ≠ 9 := by rcases p b hb with z | z; exact absurd z e; exact z
      refine ⟨fun x hx => ?_, p, d, fun a ha => ?_, w⟩
      · show (if x = sP s b then sG s (sP s b) - 1 else sG s x) ≤ 8 ∧ (lM Λ x = 9 → (if x = sP s b then sG s (sP s b) - 1 else sG s x) = 0)
        by_cases e4 : x = sP s b
        · rw [if_pos e4, e4]
          have := (g _ gb.1).1
          exact ⟨by omega, fun z => absurd z gb.2⟩
        · rw [if_neg e4]; exact g x hx
      · show (if a = b then 0 else sH s a) ≤ 10 ∧ (sP s a ≠ 36 → (if a = b then 0 else sH s a) ≤ lBe Λ)
        by_cases e4 : a = b
        · rw [if_pos e4]; exact ⟨by omega, fun _ => by omega⟩
        · rw [if_neg e4]; exact u a ha
section GRAZE
variable {σ : Sg} {c : Nat} {Λ : LT} {s : ST}
theorem plI_lt0 {x : Nat} (h : x < 2 ^ 31) : plI x < 0 ↔ x = 36 := by
  unfold plI
  split
  · rename_i e; exact ⟨fun _ => e, fun _ => by decide⟩
  · rename_i e; exact ⟨fun z => absurd z (nI_nlt0 h), fun z => absurd z e⟩
theorem jc_grazeLoop (hc : 9 ≤ c) (Λ : LT) (s0 : ST) : ∀ (k n j : Nat) (σ : Sg), n + k = lNb Λ → k < j → CC σ c Λ (graK Λ s0 n) → ∃ σ', J_X2_graze_b2 c j (nI n) σ = some ((), σ') ∧ CC σ' c Λ (graS Λ s0) ∧ Fr (fun a => a = c + 1 ∨ a = c + 2 ∨ a = c + 4) σ σ' := by
  have hl := lnd_lt hc
  intro k
  induction k with
  | zero =>
    intro n j σ hn hj h
    obtain ⟨j, rfl⟩ : ∃ i, j = i + 1 := ⟨j - 1, by omega⟩
    have h8 := h.nb8
    have e : n = lNb Λ := by omega
    refine ⟨σ, ?_, by unfold graS; rw [← e]; exact h, Fr.rf⟩
    rw [J_X2_graze_b2, h.nb, if_pos ((nI_leI (by omega) (by omega)).mpr (by omega))]
  | succ k ih =>
    intro n j σ hn hj h
    obtain ⟨j, rfl⟩ : ∃ i, j = i + 1 := ⟨j - 1, by omega⟩
    have h36 := h.sq36
    have h8 := h.nb8
    have hb : n < lNb Λ := by omega
    have a1 : ∀ m : Nat, nI m + (1 : Int32) = nI (m + 1) := fun m => by rw [li_1, nI_add]
    have n8 : ¬ (8 : Int32) ≤ nI n := by rw [li_8, nI_leI (by omega) (by omega)]; omega
    have i8 : inb (nI n) 8 = true := (inb_nI (by omega)).mpr (by omega)
    have b9 := h.2.2.1.2.2.2.1
    rw [J_X2_graze_b2, h.nb, if_neg (fun z => by have := (nI_leI (by omega) (by omega)).mp z; omega), if_neg n8, if_pos i8, nI_clamp (by omega), h.pl hb, a1]
    have go : ∀ σ', CC σ' c Λ (graB Λ (graK Λ s0 n) n) → Fr (fun a => a = c + 1 ∨ a = c + 2 ∨ a = c + 4) σ σ' → ∃ σ'', J_X2_graze_b2 c j (nI (n + 1)) σ' = some ((), σ'') ∧ CC σ'' c Λ (graS Λ s0) ∧ Fr (fun a => a = c + 1 ∨ a = c + 2 ∨ a = c + 4) σ σ'' := by
      intro σ' z f
      obtain ⟨σ'', r1, r2, r3⟩ := ih (n + 1) j σ' (by omega) (by omega) z
      exact ⟨σ'', r1, r2, f.tr r3⟩
    generalize graK Λ s0 n = s at h go ⊢
    have ok := graB_ok h.2.2.1 h.2.2.2 hb
    unfold graB at go ok
    rcases h.2.2.2.2.1 n hb with e | ⟨e1, e2⟩
    · rw [if_pos e] at go
      rw [if_pos ((plI_lt0 (by omega)).mpr e)]
      exact go σ h Fr.rf
    · have e : sP s n ≠ 36 := by omega
      have g8 := (h.2.2.2.1 _ e1).1
      have u10 := (h.2.2.2.2.2.2.1 n hb).1
      rw [if_neg e] at go ok
      rw [if_neg (fun z => e ((plI_lt0 (by omega)).mp z)), plI_of e, if_pos (show nI (sP s n) < (36 : Int32) from by rw [li_36, nI_ltI (by omega) (by omega)]; omega)]
      have i36 : inb (nI (sP s n)) 36 = true := (inb_nI (by omega)).mpr (by omega)
      rw [if_pos i36, nI_clamp (by omega), h.gr e1, if_neg e2]
      by_cases g0 : sG s (sP s n) = 0
      · rw [if_pos g0] at go ok
        rw [if_pos (show nI (sG s (sP s n)) ≤ 0 from by rw [g0]; decide), if_pos i8, if_pos i8, if_pos i8, up_s, h.hu hb, a1, up_n (by omega), h.be, if_pos i8, if_pos i8]
        have L2 : ∀ v w, LC (up (up σ (c + 4) n v) (c + 2) n w) (lnd c) Λ := fun v w => LC.up (by omega) (LC.up (by omega) h.1)
        have F2 : ∀ v w, Fr (fun a => a = c + 1 ∨ a = c + 2 ∨ a = c + 4) σ (up (up σ (c + 4) n v) (c + 2) n w) := fun v w => Fr.up (P := fun a => a = c + 1 ∨ a = c + 2 ∨ a = c + 4) (Fr.up (P := fun a => a = c + 1 ∨ a = c + 2 ∨ a = c + 4) Fr.rf (Or.inr (Or.inr rfl))) (Or.inr (Or.inl rfl))
        by_cases u : sH s n + 1 ≤ lBe Λ
        · rw [if_pos u] at go ok
          rw [if_pos ((nI_leI (by omega) (by omega)).mpr u)]
          have m := MC.upP (b := n) (v := sP s n) (MC.upH (b := n) (v := sH s n + 1) h.2.1)
          rw [plI_of e] at m
          exact go _ ⟨L2 _ _, m, h.2.2.1, ok⟩ (F2 _ _)
        · rw [if_neg u] at go ok
          rw [if_neg (fun z => u ((nI_leI (by omega) (by omega)).mp z))]
          have m := MC.upP (b := n) (v := 36) (MC.upH (b := n) (v := sH s n + 1) h.2.1)
          exact go _ ⟨L2 _ _, m, h.2.2.1, ok⟩ (F2 _ _)
      · rw [if_neg g0] at go ok
        rw [if_neg (show ¬ nI (sG s (sP s n)) ≤ 0 from by rw [li_0, nI_leI (by omega) (by omega)]; omega), if_pos i36, if_pos i36, if_pos i8, li_1, nI_subI (by omega)]
        have m := MC.upH (b := n) (v := 0) (MC.upG (x := sP s n) (v := sG s (sP s n) - 1) e2 h.2.1)
        exact go _ ⟨LC.up (by omega) (LC.up (by omega) h.1), m, h.2.2.1, ok⟩ (Fr.up (P := fun a => a = c + 1 ∨ a = c + 2 ∨ a = c + 4) (Fr.up (P := fun a => a = c + 1 ∨ a = c + 2 ∨ a = c + 4) Fr.rf (Or.inl rfl)) (Or.inr (Or.inr rfl)))
theorem jc_graze (h : CC σ c Λ s) (hc : 9 ≤ c) : ∃ σ', J_X2_graze c σ = some ((), σ') ∧ CC σ' c Λ (graS Λ s) ∧ Fr (fun a => a = c + 1 ∨ a = c + 2 ∨ a = c + 4) σ σ' := by
  have h8 := h.nb8
  exact jc_grazeLoop hc Λ s (lNb Λ) 0 FU σ (by omega) (by rw [FU_eq]; omega) h
end GRAZE
