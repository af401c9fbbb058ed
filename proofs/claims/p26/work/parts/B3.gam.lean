/-! games: what a game of one day tells can be played, and is no worse than resting -/
theorem i32_add {a b : Int32} (h1 : -2000 ≤ a.toInt) (h2 : a.toInt ≤ 2000) (h3 : -2000 ≤ b.toInt) (h4 : b.toInt ≤ 2000) : (a + b).toInt = a.toInt + b.toInt := by
  rw [Int32.toInt_add]
  exact Int.bmod_eq_of_le (by omega) (by omega)
theorem wsI_le : ∀ k, k < 4 → 0 ≤ (wsI k).toInt ∧ (wsI k).toInt ≤ 20 ∧ -20 ≤ (-(wsI k)).toInt ∧ (-(wsI k)).toInt ≤ 0 := by decide
theorem worK_le {Λ : LT} {s : ST} (hΛ : LOK Λ) : ∀ (k b : Nat) (x : Int32), b + k = 9 → -(20 * (b : Int)) ≤ x.toInt → x.toInt ≤ 20 * b → -200 ≤ (worK Λ s k b x).toInt ∧ (worK Λ s k b x).toInt ≤ 200 := by
  intro k
  induction k with
  | zero =>
    intro b x hb h1 h2
    show -200 ≤ x.toInt ∧ x.toInt ≤ 200
    omega
  | succ k ih =>
    intro b x hb h1 h2
    unfold worK
    by_cases h : b < lNb Λ
    · rw [if_pos h]
      have k3 := kdN_le (s := s) hΛ h
      obtain ⟨w1, w2, w3, w4⟩ := wsI_le (kdN Λ s b) (by omega)
      have c1 : ((b + 1 : Nat) : Int) = (b : Int) + 1 := by omega
      by_cases e : sP s b = 36
      · rw [if_pos e]
        exact ih (b + 1) x (by omega) (by omega) (by omega)
      · rw [if_neg e]
        by_cases v : lVl Λ b = 0
        · rw [if_pos v]
          have a := i32_add (a := x) (b := wsI (kdN Λ s b)) (by omega) (by omega) (by omega) (by omega)
          exact ih (b + 1) _ (by omega) (by omega) (by omega)
        · rw [if_neg v]
          have a := i32_add (a := x) (b := -(wsI (kdN Λ s b))) (by omega) (by omega) (by omega) (by omega)
          exact ih (b + 1) _ (by omega) (by omega) (by omega)
    · rw [if_neg h]
      omega
theorem worI_le {Λ : LT} {s : ST} (hΛ : LOK Λ) : -200 ≤ (worI Λ s).toInt ∧ (worI Λ s).toInt ≤ 200 := worK_le hΛ 9 0 0 rfl (by decide) (by decide)
theorem lt_100 {a b : Int32} (h1 : -200 ≤ a.toInt ∧ a.toInt ≤ 200) (h2 : -200 ≤ b.toInt ∧ b.toInt ≤ 200) : a + 100 < b + 100 ↔ a < b := by
  have e : (100 : Int32).toInt = 100 := by decide
  have q1 := i32_add (a := a) (b := 100) (by omega) (by omega) (by omega) (by omega)
  have q2 := i32_add (a := b) (b := 100) (by omega) (by omega) (by omega) (by omega)
  rw [Int32.lt_iff_toInt_lt, Int32.lt_iff_toInt_lt, q1, q2]
  omega
/-- what the first drive of a game of one day is -/
theorem gmF_ok {Λ : LT} {s : ST} {v : ST → Int32} : ∀ (k d : Nat) (a : Int32 × Int32), d + k = 99 → (a.1 = -4 ∨ ∃ e, e < 100 ∧ (e = 99 ∨ drvN Λ s (e / 10) (e % 10) ≠ 36) ∧ a = (nI e, v (livS Λ s e))) → ∃ e, e < 100 ∧ (e = 99 ∨ drvN Λ s (e / 10) (e % 10) ≠ 36) ∧ gmF v Λ s (k + 1) d a = (nI e, v (livS Λ s e)) ∧ (if sD s % 2 = 0 then ¬ v (livS Λ s e) < v (livS Λ s 99) else ¬ v (livS Λ s 99) < v (livS Λ s e)) := by
  intro k
  induction k with
  | zero =>
    intro d a hd ha
    have e99 : d = 99 := by omega
    subst e99
    show ∃ e, e < 100 ∧ _ ∧ (if 99 = 99 ∨ drvN Λ s (99 / 10) (99 % 10) ≠ 36 then gmU (sD s % 2) 99 (v (livS Λ s 99)) a else a) = _ ∧ _
    rw [if_pos (Or.inl rfl)]
    have own : ∀ r : Int32 × Int32, r = (nI 99, v (livS Λ s 99)) → ∃ e, e < 100 ∧ (e = 99 ∨ drvN Λ s (e / 10) (e % 10) ≠ 36) ∧ r = (nI e, v (livS Λ s e)) ∧ (if sD s % 2 = 0 then ¬ v (livS Λ s e) < v (livS Λ s 99) else ¬ v (livS Λ s 99) < v (livS Λ s e)) := by
      intro r hr
      refine ⟨99, by decide, Or.inl rfl, hr, ?_⟩
      split
      · exact Int32.lt_irrefl
      · exact Int32.lt_irrefl
    unfold gmU
    by_cases c : a.1 = -4
    · rw [if_pos c]
      exact own _ rfl
    · rw [if_neg c]
      rcases ha with z | ⟨e, e1, e2, e3⟩
      · exact absurd z c
      · by_cases t : sD s % 2 = 0
        · rw [if_pos t]
          by_cases c2 : a.2 < v (livS Λ s 99)
          · rw [if_pos c2]
            exact own _ rfl
          · rw [if_neg c2]
            rw [e3] at c2
            exact ⟨e, e1, e2, e3, by rw [if_pos t]; exact c2⟩
        · rw [if_neg t]
          by_cases c2 : v (livS Λ s 99) < a.2
          · rw [if_pos c2]
            exact own _ rfl
          · rw [if_neg c2]
            rw [e3] at c2
            exact ⟨e, e1, e2, e3, by rw [if_neg t]; exact c2⟩
  | succ k ih =>
    intro d a hd ha
    rw [gmF]
    refine ih (d + 1) _ (by omega) ?_
    by_cases c : d = 99 ∨ drvN Λ s (d / 10) (d % 10) ≠ 36
    · rw [if_pos c]
      have own : ∃ e, e < 100 ∧ (e = 99 ∨ drvN Λ s (e / 10) (e % 10) ≠ 36) ∧ ((nI d, v (livS Λ s d)) : Int32 × Int32) = (nI e, v (livS Λ s e)) := ⟨d, by omega, c, rfl⟩
      unfold gmU
      by_cases c1 : a.1 = -4
      · rw [if_pos c1]
        exact Or.inr own
      · rw [if_neg c1]
        split
        · split
          · exact Or.inr own
          · exact ha
        · split
          · exact Or.inr own
          · exact ha
    · rw [if_neg c]
      exact ha
theorem gmV_ok {Λ : LT} {s : ST} (e : lostI Λ s = 0) : ∃ d, d < 100 ∧ (d = 99 ∨ drvN Λ s (d / 10) (d % 10) ≠ 36) ∧ gmV Λ 1 s = (nI d, worI Λ (livS Λ s d)) ∧ (if sD s % 2 = 0 then ¬ worI Λ (livS Λ s d) < worI Λ (livS Λ s 99) else ¬ worI Λ (livS Λ s 99) < worI Λ (livS Λ s d)) := by
  have r := gmF_ok (Λ := Λ) (s := s) (v := fun s' => (gmV Λ 0 s').2) 99 0 (-4, 0) rfl (Or.inl rfl)
  have u : gmV Λ 1 s = gmF (fun s' => (gmV Λ 0 s').2) Λ s 100 0 (-4, 0) := by
    show (if lostI Λ s = 0 then _ else _) = _
    rw [if_pos e]
  rw [u]
  exact r
section GAM
variable {D : Nat} {σ : Sg} {Λ : LT} {s : ST} {h : HT}
/-- what is told is done: rest (99) or a drive -/
theorem g_does (g : GC D σ Λ s h) (hD : D < 2 ^ 20) (e : lostI Λ s = 0) {d : Nat} (hd : d < 100) (hc : d = 99 ∨ drvN Λ s (d / 10) (d % 10) ≠ 36) : ∃ σ' r, (d = 99 → J_X7_rest σ = some (nI r, σ')) ∧ (d ≠ 99 → J_X7_drive (nI d / 10) (rmI (nI d) 10) σ = some (nI r, σ')) ∧ r < 2 ^ 30 ∧ GC (D + 1) σ' Λ (livS Λ s d) (hAdd h s d) ∧ Fc σ σ' := by
  have dd := g.d
  by_cases e9 : d = 99
  · obtain ⟨σ1, r1, r2, r3⟩ := g_rest g hD e
    exact ⟨σ1, sD s + 1, fun _ => r1, fun z => absurd e9 z, by omega, by rw [e9]; exact r2, r3⟩
  · have e2 : drvN Λ s (d / 10) (d % 10) ≠ 36 := by
      rcases hc with z | z
      · exact absurd z e9
      · exact z
    obtain ⟨q1, q2, q3, q4, q5, q6, q7, q8, q9⟩ := drvN_ok g.lk g.sk e2
    have sq := g.lk.sq
    obtain ⟨σ1, r1, r2, r3⟩ := g_drive g hD q1 q2 e e2
    have em : 10 * (d / 10) + d % 10 = d := by omega
    have lv : livS Λ s d = passS Λ (movS Λ s (d / 10) (drvN Λ s (d / 10) (d % 10))) := by
      unfold livS
      rw [if_neg e9, if_neg e2]
    rw [em] at r2
    refine ⟨σ1, drvN Λ s (d / 10) (d % 10), fun z => absurd z e9, fun _ => ?_, by omega, by rw [lv]; exact r2, r3⟩
    rw [li_10, nI_div (by omega) (by omega), rmI_nI (by omega) (by omega)]
    exact r1
theorem la_games (g : GC D σ Λ s h) (hD : D + 2 < 2 ^ 20) : ∃ σ' h', J_L_games σ = some (1, σ') ∧ GC (D + 2) σ' Λ s h' ∧ hq h' = hq h ∧ hK h' = hK h ∧ Fc σ σ' := by
  have dd := g.d
  obtain ⟨σ1, r1, r2, r3⟩ := g_game g (by omega) (w := 0) (by decide)
  obtain ⟨σ2, t1, t2, t3⟩ := g_game r2 (by omega) (w := 1) (by decide)
  unfold J_L_games
  by_cases e : lostI Λ s = 0
  · obtain ⟨d, d1, d2, d3, d4⟩ := gmV_ok e
    have r1' : J_X7_game 1 0 σ = some (worI Λ (livS Λ s d) + 100, σ1) := by
      rw [show J_X7_game 1 0 σ = _ from r1, if_pos e, if_pos rfl, d3]
    have t1' : J_X7_game 1 1 σ1 = some (nI d, σ2) := by
      rw [show J_X7_game 1 1 σ1 = _ from t1, if_pos e, if_neg (by decide), d3]
    rw [r1', bd2_s, t1', bd2_s, g_c7 t2, bd1_s, if_pos e, g_c3 t2, bd1_s, li_2, rmI_nI (by omega) (by omega)]
    -- the drive told
    obtain ⟨σ3, r, y1, y2, y3, y4, y5⟩ := g_does t2 (by omega) e d1 d2
    obtain ⟨n, m1, m2, m3⟩ := hAdd_n (s := s) (d := d) g.pg.1
    obtain ⟨σ4, u1, u2, u3⟩ := g_undo y4 m1
    rw [m2] at u2
    obtain ⟨σ5, v1, v2, v3⟩ := g_rest u2 (by omega) e
    obtain ⟨n', w1, w2, w3⟩ := hAdd_n (h := hDown (hAdd h s d)) (s := s) (d := 99) u2.pg.1
    obtain ⟨σ6, x1, x2, x3⟩ := g_undo v2 w1
    rw [w2] at x2
    have n8 : n ≤ 8 := by have := y4.pg.1; omega
    have n8' : n' ≤ 8 := by have := v2.pg.1; omega
    have b1 := worI_le (Λ := Λ) (s := livS Λ s d) g.lk
    have b2 := worI_le (Λ := Λ) (s := livS Λ s 99) g.lk
    have lv : livS Λ s 99 = passS Λ s := rfl
    have c91 : ∀ t : Int32, (t = 0 ↔ ¬ sD s % 2 = 0) → J_L_games_b91 (worI Λ (livS Λ s d) + 100) t (nI r) σ3 = some (1, σ6) := by
      intro t ht
      unfold J_L_games_b91
      rw [if_neg (nI_nlt0 (by omega)), g_c6 y4, bd1_s, if_pos rfl, u1, bd2_s, if_neg (nI_nlt0 (by omega)), v1, bd2_s, if_pos (nI_ge0 (by omega)), g_c6 v2, bd1_s, ← lv, x1, bd2_s, if_neg (nI_nlt0 (by omega))]
      by_cases z : sD s % 2 = 0
      · rw [if_pos z] at d4
        rw [if_neg (fun y => ht.mp y z), if_neg (fun y => d4 ((lt_100 b1 b2).mp y))]
      · rw [if_neg z] at d4
        rw [if_pos (ht.mpr z), if_neg (fun y => d4 ((lt_100 b2 b1).mp y))]
    have c65 : ∀ t : Int32, (t = 0 ↔ ¬ sD s % 2 = 0) → J_L_games_b65 (worI Λ (livS Λ s d) + 100) (nI d) t σ2 = some (1, σ6) := by
      intro t ht
      unfold J_L_games_b65
      by_cases e9 : d = 99
      · rw [if_pos (neq li_99 e9), y1 e9, bd2_s, c91 t ht]
      · rw [if_neg (nne li_99 (by omega) (by omega) e9), y2 e9, bd2_s, c91 t ht]
    refine ⟨σ6, hDown (hAdd (hDown (hAdd h s d)) s 99), ?_, x2, rfl, rfl, r3.tr (t3.tr (y5.tr (u3.tr (v3.tr x3))))⟩
    by_cases z : sD s % 2 = 0
    · rw [if_pos (neq li_0 z)]
      exact c65 1 ⟨fun y => absurd y (by decide), fun y => absurd z y⟩
    · rw [if_neg (nne li_0 (by omega) (by omega) z)]
      exact c65 0 ⟨fun _ => z, fun _ => rfl⟩
  · refine ⟨σ2, h, ?_, t2.le (by omega), rfl, rfl, r3.tr t3⟩
    rw [show J_X7_game 1 0 σ = _ from r1, bd2_s, show J_X7_game 1 1 σ1 = _ from t1, bd2_s, g_c7 t2, bd1_s, if_neg e, if_neg e, if_neg e, if_pos rfl, if_pos rfl, g_rest0 t2 e, bd2_s, if_pos rfl]
end GAM
