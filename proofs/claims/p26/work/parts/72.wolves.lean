/-! call: wolves; the class -/
def wvS (Λ : LT) (s : ST) (t : Bool) : ST := nextS Λ (if t = true then wolS Λ (graS Λ s) else graS Λ s)
/-- in how many of ten to the m-th ways one stays -/
def stN (Λ : LT) (b x : Nat) : Nat → ST → Nat
  | 0, s => if sP s b = 36 then 0 else 1
  | m + 1, s => if sP s b = 36 then 0 else (10 - x) * stN Λ b x m (wvS Λ s false) + x * stN Λ b x m (wvS Λ s true)
theorem wolK_D {Λ : LT} {s : ST} : ∀ k b, sD (wolK Λ s k b) = sD s
  | 0, b => rfl
  | k + 1, b => by
    unfold wolK
    split
    · split
      · exact wolK_D k (b + 1)
      · split
        · rfl
        · exact wolK_D k (b + 1)
    · rfl
theorem wvS_D {Λ : LT} {s : ST} {t : Bool} : sD (wvS Λ s t) = sD s + 1 := by
  unfold wvS
  rw [nextS_D]
  cases t
  · show sD (graS Λ s) + 1 = _
    rw [graS_D]
  · show sD (wolS Λ (graS Λ s)) + 1 = _
    unfold wolS
    rw [wolK_D, graS_D]
theorem stN_le {Λ : LT} {b x : Nat} (hx : x ≤ 10) : ∀ m s, stN Λ b x m s ≤ 10 ^ m
  | 0, s => by
    unfold stN
    split <;> decide
  | m + 1, s => by
    unfold stN
    split
    · exact Nat.zero_le _
    · have h1 := Nat.mul_le_mul_left (10 - x) (stN_le (Λ := Λ) (b := b) hx m (wvS Λ s false))
      have h2 := Nat.mul_le_mul_left x (stN_le (Λ := Λ) (b := b) hx m (wvS Λ s true))
      have h3 : (10 - x) * 10 ^ m + x * 10 ^ m = 10 ^ (m + 1) := by
        rw [← Nat.add_mul, Nat.pow_succ, Nat.mul_comm]
        congr 1
        omega
      omega
theorem gcd_step {a b : Nat} : Nat.gcd a b = Nat.gcd b (a % b) := by
  rw [Nat.gcd_comm a b, Nat.gcd_rec b a, Nat.gcd_comm]
theorem half_mod {b r : Nat} (h : r < b) (hr : 0 < r) : 2 * (b % r) < b := by
  have h1 := Nat.mod_lt b hr
  by_cases e : 2 * r ≤ b
  · omega
  · have h2 : b % r = b - r := by
      rw [Nat.mod_eq_sub_mod (by omega), Nat.mod_eq_of_lt (by omega)]
    omega
section WOLVES
variable {σ : Sg} {D : Nat} {Λ : LT} {s : ST}
theorem lN_0 : (0 : Int64) = lN 0 := rfl
theorem lN_e1 : (1 : Int64) = lN 1 := rfl
theorem lN_10 : (10 : Int64) = lN 10 := rfl
theorem cmp0 {b : Nat} (hb : b < 2 ^ 31) : lg_cmp (lN b) 0 = 0 ↔ b = 0 := by
  rw [lN_0]
  unfold lg_cmp
  by_cases e : b = 0
  · rw [e]
    exact ⟨fun _ => rfl, fun _ => by decide⟩
  · rw [if_pos (show lN b > lN 0 from (lN_lt (by omega) hb).mpr (by omega))]
    exact ⟨fun z => absurd z (by decide), fun z => absurd z e⟩
theorem j7_gcd : ∀ (m j i a b : Nat), b < 2 ^ m → i + 2 * m < 100 → 2 * m + 1 ≤ j → a < 2 ^ 31 → b < 2 ^ 31 → J_X7_commonPart_b9 j (lN a) (lN b) (nI i) σ = some (lN (Nat.gcd a b)) := by
  intro m
  induction m with
  | zero =>
    intro j i a b hb hi hj ha hb2
    obtain ⟨j, rfl⟩ : ∃ i, j = i + 1 := ⟨j - 1, by omega⟩
    have b0 : b = 0 := by simpa using hb
    rw [J_X7_commonPart_b9, if_neg (show ¬ (100 : Int32) ≤ nI i from by rw [li_100, nI_leI (by omega) (by omega)]; omega), if_pos ((cmp0 hb2).mpr b0), b0, Nat.gcd_zero_right]
  | succ m ih =>
    intro j i a b hb hi hj ha hb2
    obtain ⟨j, rfl⟩ : ∃ i, j = i + 1 := ⟨j - 1, by omega⟩
    rw [J_X7_commonPart_b9, if_neg (show ¬ (100 : Int32) ≤ nI i from by rw [li_100, nI_leI (by omega) (by omega)]; omega)]
    by_cases b0 : b = 0
    · rw [if_pos ((cmp0 hb2).mpr b0), b0, Nat.gcd_zero_right]
    · have r1 := Nat.mod_lt a (show 0 < b by omega)
      rw [if_neg (fun z => b0 ((cmp0 hb2).mp z)), if_neg (fun z => b0 ((lN_eq hb2 (by omega)).mp (z.trans lN_0))), rmL_lN (by omega) (by omega), show nI i + (1 : Int32) = nI (i + 1) from by rw [li_1, nI_add], gcd_step]
      generalize a % b = r at r1
      obtain ⟨j, rfl⟩ : ∃ i, j = i + 1 := ⟨j - 1, by omega⟩
      rw [J_X7_commonPart_b9, if_neg (show ¬ (100 : Int32) ≤ nI (i + 1) from by rw [li_100, nI_leI (by omega) (by omega)]; omega)]
      by_cases r0 : r = 0
      · rw [if_pos ((cmp0 (by omega)).mpr r0), r0, Nat.gcd_zero_right]
      · have h2 := half_mod r1 (by omega)
        rw [if_neg (fun z => r0 ((cmp0 (by omega)).mp z)), if_neg (fun z => r0 ((lN_eq (by omega) (by omega)).mp (z.trans lN_0))), rmL_lN (by omega) (by omega), show nI (i + 1) + (1 : Int32) = nI (i + 2) from by rw [li_1, nI_add], gcd_step]
        have h3 : 2 ^ (m + 1) = 2 * 2 ^ m := by rw [Nat.pow_succ, Nat.mul_comm]
        exact ih j (i + 2) r (b % r) (by omega) (by omega) (by omega) (by omega) (by omega)
theorem pm94 {l : Nat} (h : l < 9) : 95 ≤ pm 94 l ∧ pm 94 l ≤ 136 ∧ (l + 1 < 9 → pm 94 l + 4 < pm 94 (l + 1)) := by
  unfold pm
  by_cases e : l = 0
  · rw [if_pos e, if_neg (by omega)]; omega
  · rw [if_neg e, if_neg (by omega)]; omega
theorem lnd94 {l : Nat} (h : l < 9) : lnd (pm 94 l) = 1 := by
  have := pm94 h
  unfold lnd
  rw [if_neg (by omega)]
/-- a meadow is made like another, of the same land -/
theorem jc_like {c d : Nat} (h : CC σ d Λ s) (hl : lnd d = 1) (hl2 : lnd c = 1) (hc : 9 ≤ c) (hd : d + 4 < c ∨ c + 4 < d) : ∃ σ', J_X2_copyFrom c d σ = some ((), σ') ∧ CC σ' c Λ s ∧ Fr (fun a => c ≤ a ∧ a ≤ c + 4) σ σ' := by
  obtain ⟨σ1, r1, r2, r3⟩ := jc_copy (c := c) (d := d) h.2.1 hd
  have hL : LC σ 1 Λ := by rw [← hl]; exact h.1
  exact ⟨σ1, r1, ⟨by rw [hl2]; exact LC.fr hL (r3 1 (by omega)) (r3 2 (by omega)) (r3 3 (by omega)), r2, h.2.2⟩, r3⟩
theorem CC.keep {c : Nat} {σ' : Sg} {P : Nat → Prop} (h : CC σ c Λ s) (hl : lnd c = 1) (f : Fr P σ σ') (h1 : ¬ P 1) (h2 : ¬ P 2) (h3 : ¬ P 3) (hP : ∀ a, c ≤ a → a ≤ c + 4 → ¬ P a) : CC σ' c Λ s := by
  have hL : LC σ 1 Λ := by rw [← hl]; exact h.1
  exact ⟨by rw [hl]; exact LC.fr hL (f 1 h1) (f 2 h2) (f 3 h3), MC.fr h.2.1 (f _ (hP _ (by omega) (by omega))) (f _ (hP _ (by omega) (by omega))) (f _ (hP _ (by omega) (by omega))) (f _ (hP _ (by omega) (by omega))) (f _ (hP _ (by omega) (by omega))), h.2.2⟩
theorem jc_stay {b x n : Nat} (hb : b < lNb Λ) (hx : x ≤ 10) (hn : n ≤ 8) : ∀ (m l j : Nat) (s : ST) (σ : Sg), l + m = n → m < j → sD s + m < 2 ^ 28 → CC σ (pm 94 l) Λ s → ∃ σ', J_X0_stayingFrom j (nI l) (nI b) (nI n) (nI x) σ = some (lN (stN Λ b x m s), σ') ∧ Fr (fun a => pm 94 l + 4 < a ∧ a ≤ 140) σ σ' := by
  intro m
  induction m with
  | zero =>
    intro l j s σ hi hj hd h
    obtain ⟨j, rfl⟩ : ∃ i, j = i + 1 := ⟨j - 1, by omega⟩
    refine ⟨σ, ?_, Fr.rf⟩
    rw [J_X0_stayingFrom]
    show J_X0_stayingFrom_body (J_X0_stayingFrom j) (nI l) (nI b) (nI n) (nI x) σ = _
    unfold J_X0_stayingFrom_body
    rw [j4_get (show l < pln 94 from (show l < 9 by omega)) (by decide), bd1_s, jc_isOff h hb, bd1_s, stN]
    by_cases e : sP s b = 36
    · rw [if_pos e, if_neg n10, if_pos e]; rfl
    · rw [if_neg e, if_pos z00, if_pos ((nI_leI (by omega) (by omega)).mpr (by omega)), if_neg e]; rfl
  | succ m ih =>
    intro l j s σ hi hj hd h
    obtain ⟨j, rfl⟩ : ∃ i, j = i + 1 := ⟨j - 1, by omega⟩
    rw [J_X0_stayingFrom]
    show ∃ σ', J_X0_stayingFrom_body (J_X0_stayingFrom j) (nI l) (nI b) (nI n) (nI x) σ = _ ∧ _
    unfold J_X0_stayingFrom_body
    have p1 := pm94 (show l < 9 by omega)
    have p2 := pm94 (show l + 1 < 9 by omega)
    have p3 := p1.2.2 (by omega)
    rw [j4_get (show l < pln 94 from (show l < 9 by omega)) (by decide), bd1_s, jc_isOff h hb, bd1_s, stN]
    by_cases e : sP s b = 36
    · rw [if_pos e, if_neg n10, if_pos e]; exact ⟨σ, rfl, Fr.rf⟩
    · rw [if_neg e, if_pos z00, if_neg (fun z => by have := (nI_leI (by omega) (by omega)).mp z; omega), if_pos (show nI l < (8 : Int32) from by rw [li_8, nI_ltI (by omega) (by omega)]; omega), show nI l + (1 : Int32) = nI (l + 1) from by rw [li_1, nI_add], j4_get (show l + 1 < pln 94 from (show l + 1 < 9 by omega)) (by decide), bd1_s, if_neg e]
      have b91 : ∀ (y : Nat) (σ : Sg), CC σ (pm 94 l) Λ s → ∃ σ', J_X0_stayingFrom_b91 (J_X0_stayingFrom j) (nI l) (nI b) (nI n) (nI x) (pm 94 l) (pm 94 (l + 1)) (lN y) σ = some (lN (y + x * stN Λ b x m (wvS Λ s true)), σ') ∧ Fr (fun a => pm 94 l + 4 < a ∧ a ≤ 140) σ σ' := by
        intro y σ h
        unfold J_X0_stayingFrom_b91
        by_cases x0 : x = 0
        · rw [if_pos (show nI x ≤ 0 from by rw [x0]; decide), x0, Nat.zero_mul, Nat.add_zero]
          exact ⟨σ, rfl, Fr.rf⟩
        · obtain ⟨σ1, r1, r2, r3⟩ := jc_like (c := pm 94 (l + 1)) h (lnd94 (by omega)) (lnd94 (by omega)) (by omega) (by omega)
          obtain ⟨σ2, t1, t2, t3⟩ := jc_graze r2 (by omega)
          obtain ⟨σ3, y1, y2, y3⟩ := jc_wolf t2 (by omega)
          have hl := lnd_lt (c := pm 94 (l + 1)) (by omega)
          have dd : sD (wolS Λ (graS Λ s)) = sD s := by unfold wolS; rw [wolK_D, graS_D]
          obtain ⟨σ4, x1, x2, x3⟩ := jc_nextDay y2 (by rw [dd]; omega) ⟨by omega, by omega, by omega⟩ ⟨by omega, by omega, by omega⟩
          have wv : wvS Λ s true = nextS Λ (wolS Λ (graS Λ s)) := rfl
          rw [← wv] at x2
          obtain ⟨σ5, v1, v2⟩ := ih (l + 1) j (wvS Λ s true) σ4 (by omega) (by omega) (by rw [wvS_D]; omega) x2
          refine ⟨σ5, ?_, ?_⟩
          · rw [if_neg (show ¬ nI x ≤ 0 from by rw [li_0, nI_leI (by omega) (by omega)]; omega), r1, bd2_s, t1, bd2_s, y1, bd2_s, x1, bd2_s, show nI l + (1 : Int32) = nI (l + 1) from by rw [li_1, nI_add], v1, bd2_s, nI_l (by omega), lN_mul, lN_add]
          · exact (r3.mono fun a z => ⟨by omega, by omega⟩).tr ((t3.mono fun a z => ⟨by omega, by omega⟩).tr ((y3.mono fun a z => ⟨by omega, by omega⟩).tr ((x3.mono fun a z => ⟨by omega, by omega⟩).tr (v2.mono fun a z => ⟨by omega, by omega⟩))))
      by_cases x10 : x = 10
      · rw [if_pos (show (10 : Int32) ≤ nI x from by rw [li_10, nI_leI (by omega) (by omega)]; omega)]
        obtain ⟨σ1, r1, r2⟩ := b91 0 σ h
        refine ⟨σ1, ?_, r2⟩
        rw [show J_X0_stayingFrom_b91 (J_X0_stayingFrom j) (nI l) (nI b) (nI n) (nI x) (pm 94 l) (pm 94 (l + 1)) 0 σ = _ from r1]
        have e0 : 10 - x = 0 := by omega
        rw [e0, Nat.zero_mul]
      · obtain ⟨σ1, r1, r2, r3⟩ := jc_like (c := pm 94 (l + 1)) h (lnd94 (by omega)) (lnd94 (by omega)) (by omega) (by omega)
        obtain ⟨σ2, t1, t2, t3⟩ := jc_pass r2 (by omega) (by omega)
        have wv : wvS Λ s false = passS Λ s := rfl
        rw [← wv] at t2
        obtain ⟨σ5, v1, v2⟩ := ih (l + 1) j (wvS Λ s false) σ2 (by omega) (by omega) (by rw [wvS_D]; omega) t2
        have F : Fr (fun a => pm 94 l + 4 < a ∧ a ≤ 140) σ σ5 := (r3.mono fun a z => ⟨by omega, by omega⟩).tr ((t3.mono fun a z => ⟨by omega, by omega⟩).tr (v2.mono fun a z => ⟨by omega, by omega⟩))
        have h5 : CC σ5 (pm 94 l) Λ s := h.keep (lnd94 (by omega)) F (by omega) (by omega) (by omega) (fun a z1 z2 => by omega)
        obtain ⟨σ6, w1, w2⟩ := b91 ((10 - x) * stN Λ b x m (wvS Λ s false)) σ5 h5
        refine ⟨σ6, ?_, F.tr w2⟩
        rw [if_neg (show ¬ (10 : Int32) ≤ nI x from by rw [li_10, nI_leI (by omega) (by omega)]; omega), r1, bd2_s, t1, bd2_s, v1, bd2_s, li_10, nI_subI (by omega), nI_l (by omega), lN_mul, lN_0, lN_add, Nat.zero_add]
        exact w1
end WOLVES
