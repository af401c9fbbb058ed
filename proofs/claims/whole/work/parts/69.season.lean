/-! call: season -/
theorem lN_toIntL {n : Nat} (h : n < 2 ^ 63) : (lN n).toInt = (n : Int) := Int64.toInt_ofNat_of_lt h
theorem lN_div {a b : Nat} (ha : a < 2 ^ 63) (hb : b < 2 ^ 63) : lN a / lN b = lN (a / b) := by
  apply Int64.toInt_inj.mp
  rw [Int64.toInt_div, lN_toIntL ha, lN_toIntL hb, lN_toIntL (Nat.lt_of_le_of_lt (Nat.div_le_self a b) ha)]
  have h1 : ((a : Int).tdiv (b : Int)) = ((a / b : Nat) : Int) := by
    rw [Int.tdiv_eq_ediv_of_nonneg (Int.natCast_nonneg a)]
    rfl
  rw [h1]
  have h2 := Nat.div_le_self a b
  generalize a / b = q at h2
  exact Int.bmod_eq_of_le (by omega) (by omega)
theorem rmL_lN {a b : Nat} (ha : a < 2 ^ 63) (hb : b < 2 ^ 63) : rmL (lN a) (lN b) = lN (a % b) := by
  unfold rmL
  rw [lN_div ha hb, lN_mul, lN_sub (by rw [Nat.mul_comm]; exact Nat.mul_div_le a b)]
  congr 1
  have := Nat.div_add_mod a b
  rw [Nat.mul_comm]
  omega
def drwN (z k : Nat) : Nat := ((7919 * z + 6151 * k + 1) * (7919 * z + 6151 * k + 1)) % 65521
theorem drwN_lt {z k : Nat} : drwN z k < 65521 := Nat.mod_lt _ (by decide)
theorem drw_eq {z k : Nat} (hz : z < 10000) (hk : k < 100) : (rmL (((((7919 : Int64) * ((nI z).toInt64)) + ((6151 : Int64) * ((nI k).toInt64))) + (1 : Int64)) * ((((7919 : Int64) * ((nI z).toInt64)) + ((6151 : Int64) * ((nI k).toInt64))) + (1 : Int64))) (65521 : Int64)).toInt32 = nI (drwN z k) := by
  have e1 : (7919 : Int64) = lN 7919 := rfl
  have e2 : (6151 : Int64) = lN 6151 := rfl
  have e3 : (65521 : Int64) = lN 65521 := rfl
  have e4 : (1 : Int64) = lN 1 := rfl
  have hm : (7919 * z + 6151 * k + 1) * (7919 * z + 6151 * k + 1) ≤ 100000000 * 100000000 := Nat.mul_le_mul (by omega) (by omega)
  rw [nI_l (by omega), nI_l (by omega), e1, e2, e3, e4, lN_mul, lN_mul, lN_add, lN_add, lN_mul, rmL_lN (by omega) (by decide), lN_i]
  rfl
def seaD (Λ : LT) (z k : Nat) : Nat := 10 * (drwN z k / 8 % lNb Λ) + drwN z k / 64 % 4
def seaK (Λ : LT) (z : Nat) : Nat → Nat → ST → ST
  | 0, _, s => s
  | m + 1, k, s => if lostI Λ s = 0 then seaK Λ z m (k + 1) (livS Λ s (seaD Λ z k)) else s
def seaR (Λ : LT) (w : Int32) (s : ST) : Int32 := if w = 0 then worI Λ s + 100 else nI (staN Λ s 0) + nI (staN Λ s 1)
section SEASON
variable {σ : Sg} {D : Nat} {Λ : LT} {s : ST}
theorem seaD_lt (hΛ : LOK Λ) {z k : Nat} : seaD Λ z k < 80 := by
  have h1 : drwN z k / 8 % lNb Λ < lNb Λ := Nat.mod_lt _ (by have := hΛ.2.2.1; omega)
  have h2 : drwN z k / 64 % 4 < 4 := Nat.mod_lt _ (by decide)
  have := hΛ.2.2.1
  unfold seaD
  omega
theorem sea_d (hΛ : LOK Λ) {z k : Nat} : (10 : Int32) * (rmI (nI (drwN z k) / (8 : Int32)) (nI (lNb Λ))) + rmI (nI (drwN z k) / (64 : Int32)) (4 : Int32) = nI (seaD Λ z k) := by
  have h := @drwN_lt z k
  have := hΛ.2.2.1
  have e64 : (64 : Int32) = nI 64 := rfl
  rw [li_8, li_10, li_4, e64, nI_div (by omega) (by omega), nI_div (by omega) (by omega), rmI_nI (by omega) (by omega), rmI_nI (by omega) (by omega), nI_mul, nI_add]
  rfl
theorem jc_sea127 (h : CC σ 19 Λ s) (w : Int32) : J_X7_season_b127 w σ = some (seaR Λ w s, σ) := by
  unfold J_X7_season_b127 seaR
  by_cases e : w = 0
  · rw [if_pos e, if_pos e, jc_worth h, bd1_s]
  · rw [if_neg e, if_neg e, show J_X2_staying 19 0 σ = some (nI (staN Λ s 0)) from jc_staying h (by decide), bd1_s, show J_X2_staying 19 1 σ = some (nI (staN Λ s 1)) from jc_staying h (by decide), bd1_s]
theorem jm_sea131 (h : MS σ Λ s) (w : Int32) : J_X8_season_b131 w σ = some (seaR Λ w s, σ) := by
  unfold J_X8_season_b131 seaR
  by_cases e : w = 0
  · rw [if_pos e, if_pos e, jm_worth h, bd1_s, Int32.add_comm]
  · rw [if_neg e, if_neg e, show J_X8_onMeadow 0 σ = some (nI (staN Λ s 0)) from jm_staying h (by decide), bd1_s, show J_X8_onMeadow 1 σ = some (nI (staN Λ s 1)) from jm_staying h (by decide), bd1_s]
theorem jc_seaLoop {z n : Nat} (hz : z < 10000) (hn : n ≤ 60) (w : Int32) : ∀ (m k j : Nat) (s : ST) (σ : Sg), k + m = n → m < j → sD s + m < 2 ^ 28 → CC σ 19 Λ s → ∃ σ', J_X7_season_b47 j (nI z) (nI n) w (nI k) σ = some (seaR Λ w (seaK Λ z m k s), σ') ∧ Fr (fun a => 19 ≤ a ∧ a ≤ 23) σ σ' := by
  intro m
  induction m with
  | zero =>
    intro k j s σ hi hj hd h
    obtain ⟨j, rfl⟩ : ∃ i, j = i + 1 := ⟨j - 1, by omega⟩
    refine ⟨σ, ?_, Fr.rf⟩
    rw [J_X7_season_b47, if_pos ((nI_leI (by omega) (by omega)).mpr (by omega)), jc_sea127 h]
    rfl
  | succ m ih =>
    intro k j s σ hi hj hd h
    obtain ⟨j, rfl⟩ : ∃ i, j = i + 1 := ⟨j - 1, by omega⟩
    have n8 := h.2.2.1.2.2.1
    have q3 : σ 1 3 = nI (lNb Λ) := h.nb
    rw [J_X7_season_b47, if_neg (fun z => by have := (nI_leI (by omega) (by omega)).mp z; omega), jc_lost h, bd1_s, seaK]
    by_cases e : lostI Λ s = 0
    · have dl := seaD_lt h.2.2.1 (z := z) (k := k)
      obtain ⟨σ1, r1, r2, r3⟩ := jc_live h (by decide) (by omega) (d := seaD Λ z k) (by omega)
      obtain ⟨σ2, t1, t2⟩ := ih (k + 1) j (livS Λ s (seaD Λ z k)) σ1 (by omega) (by omega) (by rw [livS_D]; omega) r2
      refine ⟨σ2, ?_, Fr.tr (r3.mono fun a z => z) t2⟩
      rw [if_pos e, if_pos e]
      unfold J_X7_draw
      rw [drw_eq hz (by omega), bd1_s, q3, if_pos (show (1 : Int32) ≤ nI (lNb Λ) from by rw [li_1, nI_leI (by omega) (by omega)]; omega), if_neg (nne li_0 (by omega) (by omega) (by omega))]
      unfold J_X7_season_b99
      rw [sea_d h.2.2.1, r1, bd2_s, show nI k + (1 : Int32) = nI (k + 1) from by rw [li_1, nI_add]]
      exact t1
    · refine ⟨σ, ?_, Fr.rf⟩
      rw [if_neg e, if_neg e, jc_sea127 h]
/-- told a drive that can not be, or rest: in the model -/
theorem jm_told (h : MS σ Λ s) (hd : sD s < 2 ^ 28) {d : Nat} (hd2 : d < 1000) (hl : lostI Λ s = 0) : ∃ σ1 σ2, J_X8_canDrive (nI d) σ = some (bI (canN Λ s d), σ1) ∧ J_X8_goesBy (if canN Λ s d = true then nI d else 99) σ1 = some ((), σ2) ∧ MS σ2 Λ (livS Λ s d) ∧ Fs W32 σ σ1 ∧ Fs Wt σ σ2 := by
  obtain ⟨σ1, r1, r2, r3⟩ := jm_canDrive h hd hd2
  by_cases e : drvN Λ s (d / 10) (d % 10) = 36
  · have cn : canN Λ s d = false := by unfold canN; simp [e]
    obtain ⟨σ2, t1, t2, t3⟩ := jm_pass99 r2 hd
    refine ⟨σ1, σ2, r1, ?_, ?_, r3, (r3.mono fun _ _ z => z.wt).tr t3⟩
    · rw [cn]; exact t1
    · have lv : livS Λ s d = passS Λ s := by
        unfold livS
        split
        · rfl
        · first
          | rfl
          | rw [if_pos e]
      rw [lv]; exact t2
  · have cn : canN Λ s d = true := by unfold canN; simp [e, hl]
    obtain ⟨σ2, t1, t2, t3⟩ := jm_goesBy r2 hd hd2 (Or.inr e)
    refine ⟨σ1, σ2, r1, ?_, t2, r3, (r3.mono fun _ _ z => z.wt).tr t3⟩
    rw [cn]; exact t1
theorem jm_seaLoop {z n : Nat} (hz : z < 10000) (hn : n ≤ 60) (w : Int32) : ∀ (m k j : Nat) (s : ST) (σ : Sg), k + m = n → m < j → sD s + m < 2 ^ 28 → MS σ Λ s → ∃ σ', J_X8_season_b39 j (nI z) (nI n) w (nI k) σ = some (seaR Λ w (seaK Λ z m k s), σ') ∧ Fs Wt σ σ' := by
  intro m
  induction m with
  | zero =>
    intro k j s σ hi hj hd h
    obtain ⟨j, rfl⟩ : ∃ i, j = i + 1 := ⟨j - 1, by omega⟩
    refine ⟨σ, ?_, Fs.rf⟩
    rw [J_X8_season_b39, if_pos ((nI_leI (by omega) (by omega)).mpr (by omega)), jm_sea131 h]
    rfl
  | succ m ih =>
    intro k j s σ hi hj hd h
    obtain ⟨j, rfl⟩ : ∃ i, j = i + 1 := ⟨j - 1, by omega⟩
    have n8 := h.2.2.1.2.2.1
    rw [J_X8_season_b39, if_neg (fun z => by have := (nI_leI (by omega) (by omega)).mp z; omega), jm_lost h, bd1_s, seaK]
    by_cases e : lostI Λ s = 0
    · have dl := seaD_lt h.2.2.1 (z := z) (k := k)
      obtain ⟨σ1, σ2, r1, r2, r3, r4, r5⟩ := jm_told h (by omega) (d := seaD Λ z k) (by omega) e
      obtain ⟨σ3, t1, t2⟩ := ih (k + 1) j (livS Λ s (seaD Λ z k)) σ2 (by omega) (by omega) (by rw [livS_D]; omega) r3
      refine ⟨σ3, ?_, r5.tr t2⟩
      have q3 : σ1 141 3 = nI (lNb Λ) := by rw [r4 141 3 (fun z => by have := z.2; omega)]; exact h.nb
      rw [if_pos e, if_pos e, h.nb, if_neg (nne li_0 (by omega) (by omega) (by omega)), drw_eq hz (by omega), sea_d h.2.2.1, r1, bd2_s, show nI k + (1 : Int32) = nI (k + 1) from by rw [li_1, nI_add]]
      cases cn : canN Λ s (seaD Λ z k)
      · rw [cn, if_neg (by decide)] at r2
        rw [if_pos (show bI false = 0 from rfl), r2, bd2_s, t1]
      · rw [cn, if_pos rfl] at r2
        rw [if_neg (show ¬ bI true = 0 from by decide), r2, bd2_s, t1]
    · refine ⟨σ, ?_, Fs.rf⟩
      rw [if_neg e, if_neg e, jm_sea131 h]
theorem cl_season (h : Psi D σ) (hD : D < 2 ^ 20) (a b c : Int32) : ∃ r σ1 σ2, J_X7_season a b c σ = some (r, σ1) ∧ J_X8_season a b c σ1 = some (r, σ2) ∧ Psi D σ2 := by
  have h0 := h
  obtain ⟨Λ, s, n, o, P, T, q, K, t, h1, h2, -, -, -⟩ := h
  have hΛ := h1.2.2
  have hd := h2.2.2.2
  have e99 : (9999 : Int32) = nI 9999 := rfl
  rcases i_cases a (show 10000 < 2 ^ 31 by decide) with ⟨z, hz, rfl⟩ | ha
  · have iz : J_X8_in (nI z) 0 9999 σ = some 1 := jm_in1 (lo := 0) (hi := 9999) (by omega) (by omega) (by omega)
    rcases i_cases b (show 61 < 2 ^ 31 by decide) with ⟨m, hm, rfl⟩ | hb
    · by_cases m1 : m = 0
      · refine ⟨-1, σ, σ, ?_, ?_, h0⟩
        · unfold J_X7_season
          rw [if_neg (nI_nlt0 (by omega)), if_neg (show ¬ (9999 : Int32) < nI z from by rw [e99, nI_ltI (by omega) (by omega)]; omega), if_pos (show nI m < (1 : Int32) from by rw [m1]; decide)]
        · unfold J_X8_season
          rw [iz, bd1_s, if_neg n10, m1, show J_X8_in (nI 0) 1 60 σ = some 0 from rfl, bd1_s, if_pos z00]
      · have nm : ∀ σ, J_X8_in (nI m) 1 60 σ = some 1 := fun σ => jm_in1 (lo := 1) (hi := 60) (by omega) (by omega) (by omega)
        rcases i_cases c (show 2 < 2 ^ 31 by decide) with ⟨w, hw, rfl⟩ | hc
        · have ww := what1 (show w ≤ 1 by omega)
          obtain ⟨σ1, r1, r2, r3⟩ := jc_spare h1 h2
          obtain ⟨σ2, t1, t2⟩ := jc_seaLoop hz (show m ≤ 60 by omega) (nI w) m 0 FU s σ1 (by omega) (by rw [FU_eq]; omega) (by omega) r2
          have f2 := spare_wk (r3.tr t2)
          have g1 := h1.fr f2
          have g2 := h2.fr hΛ f2
          obtain ⟨σ3, y1, y2, y3⟩ := g2.as g1
          obtain ⟨σ4, x1, x2⟩ := jm_seaLoop hz (show m ≤ 60 by omega) (nI w) m 0 FU s σ3 (by omega) (by rw [FU_eq]; omega) (by omega) y2
          refine ⟨seaR Λ (nI w) (seaK Λ z m 0 s), σ2, σ4, ?_, ?_, h0.fr (f2.tr (y3.wk.tr x2.wk))⟩
          · unfold J_X7_season
            rw [if_neg (nI_nlt0 (by omega)), if_neg (show ¬ (9999 : Int32) < nI z from by rw [e99, nI_ltI (by omega) (by omega)]; omega), if_neg (show ¬ nI m < (1 : Int32) from by rw [li_1, nI_ltI (by omega) (by omega)]; omega), if_neg (show ¬ (60 : Int32) < nI m from by rw [li_60, nI_ltI (by omega) (by omega)]; omega), if_neg ww.1, if_pos ww.2, r1, bd2_s]
            exact t1
          · unfold J_X8_season
            rw [show J_X8_in (nI z) 0 9999 σ2 = some 1 from iz, bd1_s, if_neg n10, nm, bd1_s, if_neg n10, in01 (by omega), bd1_s, if_neg n10, y1, bd2_s]
            exact x1
        · refine ⟨-1, σ, σ, ?_, ?_, h0⟩
          · unfold J_X7_season
            rw [if_neg (nI_nlt0 (by omega)), if_neg (show ¬ (9999 : Int32) < nI z from by rw [e99, nI_ltI (by omega) (by omega)]; omega), if_neg (show ¬ nI m < (1 : Int32) from by rw [li_1, nI_ltI (by omega) (by omega)]; omega), if_neg (show ¬ (60 : Int32) < nI m from by rw [li_60, nI_ltI (by omega) (by omega)]; omega)]
            rcases hc with y | y
            · rw [if_pos y]
            · rw [if_neg (what0 y).1, if_neg (what0 y).2]
          · unfold J_X8_season
            rw [iz, bd1_s, if_neg n10, nm, bd1_s, if_neg n10, in01_0 hc, bd1_s, if_pos z00]
    · refine ⟨-1, σ, σ, ?_, ?_, h0⟩
      · unfold J_X7_season
        rw [if_neg (nI_nlt0 (by omega)), if_neg (show ¬ (9999 : Int32) < nI z from by rw [e99, nI_ltI (by omega) (by omega)]; omega)]
        rcases hb with y | y
        · rw [if_pos (show b < (1 : Int32) from lt0_lt (n := 1) (by decide) y)]
        · rw [if_neg (show ¬ b < (1 : Int32) from Int32.not_lt.mpr (Int32.le_of_lt (ge_lt (m := 1) (n := 61) (by decide) (by decide) y))), if_pos (show (60 : Int32) < b from ge_lt (m := 60) (n := 61) (by decide) (by decide) y)]
      · unfold J_X8_season
        rw [iz, bd1_s, if_neg n10, show J_X8_in b 1 60 σ = some 0 from jm_in0 (lo := 1) (hi := 60) (n := 61) (by decide) (by decide) (by decide) hb, bd1_s, if_pos z00]
  · refine ⟨-1, σ, σ, ?_, ?_, h0⟩
    · unfold J_X7_season
      rcases ha with y | y
      · rw [if_pos y]
      · rw [if_neg (ge_n0 (by decide) y), if_pos (show (9999 : Int32) < a from ge_lt (m := 9999) (n := 10000) (by decide) (by decide) y)]
    · unfold J_X8_season
      rw [show J_X8_in a 0 9999 σ = some 0 from jm_in0 (lo := 0) (hi := 9999) (n := 10000) (by decide) (by decide) (by decide) ha, bd1_s, if_pos z00]
end SEASON
