/-! call: season -/
theorem lN_toIntL {n : Nat} (h : n < 2 ^ 63) : (lN n).toInt = (n : Int) := Int64.toInt_ofNat_of_lt h
theorem lN_div {a b : Nat} (ha : a < 2 ^ 63) (hb : b < 2 ^ 63) : lN a / lN b = lN (a / b) := by
  apply Int64.toInt_inj.mp
  rw [Int64.toInt_div, lN_toIntL ha, lN_toIntL hb, lN_toIntL (Nat.lt_of_le_of_lt (Nat.div_le_self a b) ha)]
  have h1 : ((a : Int).tdiv (b : Int)) = ((a / b : Nat) : Int) := by
    rw [Int.tdiv_eq_ediv_of_nonneg (Int.natCast_nonneg a)]
    rfl
  rw [h1]
  have h2 := Nat.div_le_self a b
  generalize a / b = q at h2
  exact Int.bmod_eq_of_le (by omega) (by omega)
theorem rmL_lN {a b : Nat} (ha : a < 2 ^ 63) (hb : b < 2 ^ 63) : rmL (lN a) (lN b) = lN (a % b) := by
  unfold rmL
  rw [lN_div ha hb, lN_mul, lN_sub (by rw [Nat.mul_comm]; exact Nat.mul_div_le a b)]
  congr 1
  have := Nat.div_add_mod a b
  rw [Nat.mul_comm]
  omega
def drwN (z k : Nat) : Nat := ((7919 * z + 6151 * k + 1) * (7919 * z + 6151 * k + 1)) % 65521
theorem drwN_lt {z k : Nat} : drwN z k < 65521 := Nat.mod_lt _ (by decide)
theorem drw_eq {z k : Nat} (hz : z < 10000) (hk : k < 100) : (rmL (((((7919 : Int64) * ((nI z).toInt64)) + ((6151 : Int64) * ((nI k).toInt64))) + (1 : Int64)) * ((((7919 : Int64) * ((nI z).toInt64)) + ((6151 : Int64) * ((nI k).toInt64))) + (1 : Int64))) (65521 : Int64)).toInt32 = nI (drwN z k) := by
  have e1 : (7919 : Int64) = lN 7919 := rfl
  have e2 : (6151 : Int64) = lN 6151 := rfl
  have e3 : (65521 : Int64) = lN 65521 := rfl
  have e4 : (1 : Int64) = lN 1 := rfl
  have hm : (7919 * z + 6151 * k + 1) * (7919 * z + 6151 * k + 1) ≤ 100000000 * 100000000 := Nat.mul_le_mul (by omega) (by omega)
  rw [nI_l (by omega), nI_l (by omega), e1, e2, e3, e4, lN_mul, lN_mul, lN_add, lN_add, lN_mul, rmL_lN (by omega) (by decide), lN_i]
  rfl
def seaD (Λ : LT) (z k : Nat) : Nat := 10 * (drwN z k / 8 % lNb Λ) + drwN z k / 64 % 4
def seaK (Λ : LT) (z : Nat) : Nat → Nat → ST → ST
  | 0, _, s => s
  | m + 1, k, s => if lostI Λ s = 0 then seaK Λ z m (k + 1) (livS Λ s (seaD Λ z k)) else s
def seaR (Λ : LT) (w : Int32) (s : ST) : Int32 := if w = 0 then worI Λ s + 100 else nI (staN Λ s 0) + nI (staN Λ s 1)
section SEASON
variable {σ : Sg} {D : Nat} {Λ : LT} {s : ST}
theorem seaD_lt (hΛ : LOK Λ) {z k : Nat} : seaD Λ z k < 80 := by
  have h1 : drwN z k / 8 % lNb Λ < lNb Λ := Nat.mod_lt _ (by have := hΛ.2.2.1; omega)
  have h2 : drwN z k / 64 % 4 < 4 := Nat.mod_lt _ (by decide)
  have := hΛ.2.2.1
  unfold seaD
  omega
theorem sea_d (hΛ : LOK Λ) {z k : Nat} : (10 : Int32) * (rmI (nI (drwN z k) / (8 : Int32)) (nI (lNb Λ))) + rmI (nI (drwN z k) / (64 : Int32)) (4 : Int32) = nI (seaD Λ z k) := by
  have h := @drwN_lt z k
  have := hΛ.2.2.1
  have e64 : (64 : Int32) = nI 64 := rfl
  rw [li_8, li_10, li_4, e64, nI_div (by omega) (by omega), nI_div (by omega) (by omega), rmI_nI (by omega) (by omega), rmI_nI (by omega) (by omega), nI_mul, nI_add]
  rfl
theorem jc_sea127 (h : CC σ 19 Λ s) (w : Int32) : J_X7_season_b127 w σ = some (seaR Λ w s, σ) := by
  unfold J_X7_season_b127 seaR
  by_cases e : w = 0
  · rw [if_pos e, if_pos e, jc_worth h, bd1_s]
  · rw [if_neg e, if_neg e, show J_X2_staying 19 0 σ = some (nI (staN Λ s 0)) from jc_staying h (by decide), bd1_s, show J_X2_staying 19 1 σ = some (nI (staN Λ s 1)) from jc_staying h (by decide), bd1_s]
theorem jc_seaLoop {z n : Nat} (hz : z < 10000) (hn : n ≤ 60) (w : Int32) : ∀ (m k j : Nat) (s : ST) (σ : Sg), k + m = n → m < j → sD s + m < 2 ^ 28 → CC σ 19 Λ s → ∃ σ', J_X7_season_b47 j (nI z) (nI n) w (nI k) σ = some (seaR Λ w (seaK Λ z m k s), σ') ∧ Fr (fun a => 19 ≤ a ∧ a ≤ 23) σ σ' := by
  intro m
  induction m with
  | zero =>
    intro k j s σ hi hj hd h
    obtain ⟨j, rfl⟩ : ∃ i, j = i + 1 := ⟨j - 1, by omega⟩
    refine ⟨σ, ?_, Fr.rf⟩
    rw [J_X7_season_b47, if_pos ((nI_leI (by omega) (by omega)).mpr (by omega)), jc_sea127 h]
    rfl
  | succ m ih =>
    intro k j s σ hi hj hd h
    obtain ⟨j, rfl⟩ : ∃ i, j = i + 1 := ⟨j - 1, by omega⟩
    have n8 := h.2.2.1.2.2.1
    have q3 : σ 1 3 = nI (lNb Λ) := h.nb
    rw [J_X7_season_b47, if_neg (fun z => by have := (nI_leI (by omega) (by omega)).mp z; omega), jc_lost h, bd1_s, seaK]
    by_cases e : lostI Λ s = 0
    · have dl := seaD_lt h.2.2.1 (z := z) (k := k)
      obtain ⟨σ1, r1, r2, r3⟩ := jc_live h (by decide) (by omega) (d := seaD Λ z k) (by omega)
      obtain ⟨σ2, t1, t2⟩ := ih (k + 1) j (livS Λ s (seaD Λ z k)) σ1 (by omega) (by omega) (by rw [livS_D]; omega) r2
      refine ⟨σ2, ?_, Fr.tr (r3.mono fun a z => z) t2⟩
      rw [if_pos e, if_pos e]
      unfold J_X7_draw
      rw [drw_eq hz (by omega), bd1_s, q3, if_pos (show (1 : Int32) ≤ nI (lNb Λ) from by rw [li_1, nI_leI (by omega) (by omega)]; omega), if_neg (nne li_0 (by omega) (by omega) (by omega))]
      unfold J_X7_season_b99
      rw [sea_d h.2.2.1, r1, bd2_s, show nI k + (1 : Int32) = nI (k + 1) from by rw [li_1, nI_add]]
      exact t1
    · refine ⟨σ, ?_, Fr.rf⟩
      rw [if_neg e, if_neg e, jc_sea127 h]
end SEASON
