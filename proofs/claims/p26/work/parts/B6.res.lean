/-! days of rest, wolves, seasons -/
theorem and_nI (a : Int32) {m : Nat} (hm : m < 2 ^ 31) : ∃ k, k ≤ m ∧ a &&& nI m = nI k := by
  have hk : (a &&& nI m).toBitVec.toNat ≤ m := by
    rw [Int32.toBitVec_and, BitVec.toNat_and]
    refine Nat.le_trans Nat.and_le_right ?_
    show (BitVec.ofNat 32 m).toNat ≤ m
    rw [BitVec.toNat_ofNat]
    exact Nat.mod_le _ _
  refine ⟨(a &&& nI m).toBitVec.toNat, hk, ?_⟩
  apply Int32.toInt_inj.mp
  rw [nI_toInt (by omega)]
  show (a &&& nI m).toBitVec.toInt = _
  rw [BitVec.toInt_eq_toNat_of_lt (by omega)]
theorem low_ok (a : Int32) {n : Nat} (h1 : 0 < n) (h2 : n < 2 ^ 31) : ∃ m, m < n ∧ ∀ σ : Sg, J_L_low a (nI n) σ = some (nI m) := by
  obtain ⟨k, k1, k2⟩ := and_nI a (m := 2147483647) (by decide)
  refine ⟨k % n, Nat.mod_lt _ h1, fun σ => ?_⟩
  unfold J_L_low
  rw [if_neg (nI_ne0 h1 h2), show (2147483647 : Int32) = nI 2147483647 from rfl, k2, rmI_nI (by omega) h2]
/-- days of rest -/
def pas (Λ : LT) : Nat → ST → ST
  | 0, s => s
  | n + 1, s => pas Λ n (passS Λ s)
theorem pas_add {Λ : LT} : ∀ (n : Nat) (s : ST), passS Λ (pas Λ n s) = pas Λ (n + 1) s
  | 0, s => rfl
  | n + 1, s => pas_add n (passS Λ s)
theorem pas_D {Λ : LT} : ∀ (n : Nat) (s : ST), sD (pas Λ n s) = sD s + n
  | 0, s => rfl
  | n + 1, s => by
    show sD (pas Λ n (passS Λ s)) = _
    rw [pas_D n, passS_D]
    omega
theorem pas_PL {Λ : LT} : ∀ (n : Nat) (s : ST), PL s (pas Λ n s)
  | 0, s => PL.rf
  | n + 1, s => passS_PL.tr (pas_PL n (passS Λ s))
theorem pas_pas {Λ : LT} : ∀ (m n : Nat) (s : ST), pas Λ n (pas Λ m s) = pas Λ (m + n) s
  | 0, n, s => by rw [Nat.zero_add]; rfl
  | m + 1, n, s => by
    rw [show m + 1 + n = (m + n) + 1 by omega]
    exact pas_pas m n (passS Λ s)
theorem pas_off {Λ : LT} {s : ST} {b m n : Nat} (h : m ≤ n) (e : sP (pas Λ m s) b = 36) : sP (pas Λ n s) b = 36 := by
  have : pas Λ n s = pas Λ (n - m) (pas Λ m s) := by rw [pas_pas]; congr 1; omega
  rw [this]
  exact (pas_PL (n - m) (pas Λ m s)).off e
/-- when it starves -/
theorem strK_ok {Λ : LT} {b : Nat} {s0 : ST} : ∀ (k i : Nat) (s : ST), 1 ≤ i → pas Λ (i - 1) s0 = s → (∀ j, j < i → sP (pas Λ j s0) b ≠ 36) → (strK Λ b k i s = -4 ∧ ∀ j, j < i + k → sP (pas Λ j s0) b ≠ 36) ∨ ∃ m, i ≤ m ∧ m < i + k ∧ strK Λ b k i s = nI m ∧ (∀ j, j < m → sP (pas Λ j s0) b ≠ 36) ∧ sP (pas Λ m s0) b = 36
  | 0, i, s, h1, h2, h3 => Or.inl ⟨rfl, h3⟩
  | k + 1, i, s, h1, h2, h3 => by
    have e : passS Λ s = pas Λ i s0 := by
      rw [← h2, pas_add]
      congr 1
      omega
    unfold strK
    by_cases c : sP (passS Λ s) b = 36
    · rw [if_pos c]
      rw [e] at c
      exact Or.inr ⟨i, Nat.le_refl _, by omega, rfl, h3, c⟩
    · rw [if_neg c]
      rcases strK_ok k (i + 1) (passS Λ s) (by omega) (by rw [e]; rfl) (fun j hj => by
        by_cases ej : j = i
        · rw [ej, ← e]; exact c
        · exact h3 j (by omega)) with ⟨z1, z2⟩ | ⟨m, z1, z2, z3⟩
      · exact Or.inl ⟨z1, fun j hj => z2 j (by omega)⟩
      · exact Or.inr ⟨m, by omega, by omega, z3⟩
/-- when there is grass -/
theorem agaK_ok {Λ : LT} {x : Nat} {s0 : ST} : ∀ (k i : Nat) (s : ST), pas Λ i s0 = s → (∀ j, j < i → sG (pas Λ j s0) x = 0) → (agaK Λ x k i s = -4 ∧ ∀ j, j < i + k → sG (pas Λ j s0) x = 0) ∨ ∃ m, i ≤ m ∧ m < i + k ∧ agaK Λ x k i s = nI m ∧ (∀ j, j < m → sG (pas Λ j s0) x = 0) ∧ sG (pas Λ m s0) x ≠ 0
  | 0, i, s, h2, h3 => Or.inl ⟨rfl, h3⟩
  | k + 1, i, s, h2, h3 => by
    unfold agaK
    by_cases c : sG s x = 0
    · rw [if_pos c]
      rcases agaK_ok k (i + 1) (passS Λ s) (by rw [← pas_add, h2]) (fun j hj => by
        by_cases ej : j = i
        · rw [ej, h2]; exact c
        · exact h3 j (by omega)) with ⟨z1, z2⟩ | ⟨m, z1, z2, z3⟩
      · exact Or.inl ⟨z1, fun j hj => z2 j (by omega)⟩
      · exact Or.inr ⟨m, by omega, by omega, z3⟩
    · rw [if_neg c]
      rw [← h2] at c
      exact Or.inr ⟨i, Nat.le_refl _, by omega, rfl, h3, c⟩
/-- what is told of starving: 0 where one is off, else its day, or none in 60 -/
def SA (Λ : LT) (s : ST) (b : Nat) (v : Int32) : Prop := (v = -4 ∧ ∀ j, j < 61 → sP (pas Λ j s) b ≠ 36) ∨ ∃ m, 1 ≤ m ∧ m ≤ 60 ∧ v = nI m ∧ (∀ j, j < m → sP (pas Λ j s) b ≠ 36) ∧ ∀ j, m ≤ j → sP (pas Λ j s) b = 36
theorem SA_ok {Λ : LT} {s : ST} {b : Nat} (e : sP s b ≠ 36) : SA Λ s b (strK Λ b 60 1 s) := by
  rcases strK_ok (Λ := Λ) (b := b) (s0 := s) 60 1 s (Nat.le_refl _) rfl (fun j hj => by rw [show j = 0 by omega]; exact e) with ⟨z1, z2⟩ | ⟨m, z1, z2, z3, z4, z5⟩
  · exact Or.inl ⟨z1, fun j hj => z2 j (by omega)⟩
  · exact Or.inr ⟨m, z1, by omega, z3, z4, fun j hj => pas_off hj z5⟩
def GA (Λ : LT) (s : ST) (x : Nat) (v : Int32) : Prop := (v = -4 ∧ sG s x = 0) ∨ (v = -2 ∧ lM Λ x = 9) ∨ ∃ m, m ≤ 60 ∧ v = nI m ∧ lM Λ x ≠ 9 ∧ (∀ j, j < m → sG (pas Λ j s) x = 0) ∧ sG (pas Λ m s) x ≠ 0
theorem GA_ok {Λ : LT} {s : ST} {x : Nat} : GA Λ s x (if lM Λ x = 9 then -2 else agaK Λ x 61 0 s) := by
  by_cases m9 : lM Λ x = 9
  · rw [if_pos m9]; exact Or.inr (Or.inl ⟨rfl, m9⟩)
  · rw [if_neg m9]
    rcases agaK_ok (Λ := Λ) (x := x) (s0 := s) 61 0 s rfl (fun j hj => absurd hj (Nat.not_lt_zero j)) with ⟨z1, z2⟩ | ⟨m, z1, z2, z3, z4, z5⟩
    · exact Or.inl ⟨z1, z2 0 (by decide)⟩
    · exact Or.inr (Or.inr ⟨m, by omega, z3, m9, z4, z5⟩)
/-- wolves: of no days more -/
theorem stN_step {Λ : LT} {b x : Nat} (hx : x ≤ 10) : ∀ (m : Nat) (s : ST), stN Λ b x (m + 1) s ≤ 10 * stN Λ b x m s
  | 0, s => by
    show (if sP s b = 36 then 0 else (10 - x) * stN Λ b x 0 (wvS Λ s false) + x * stN Λ b x 0 (wvS Λ s true)) ≤ 10 * stN Λ b x 0 s
    by_cases e : sP s b = 36
    · rw [if_pos e]; exact Nat.zero_le _
    · rw [if_neg e]
      have h1 : stN Λ b x 0 (wvS Λ s false) ≤ 1 := by unfold stN; split <;> decide
      have h2 : stN Λ b x 0 (wvS Λ s true) ≤ 1 := by unfold stN; split <;> decide
      have h3 : stN Λ b x 0 s = 1 := by unfold stN; rw [if_neg e]
      have p1 := Nat.mul_le_mul_left (10 - x) h1
      have p2 := Nat.mul_le_mul_left x h2
      rw [h3]
      omega
  | m + 1, s => by
    rw [stN]
    by_cases e : sP s b = 36
    · rw [if_pos e]; exact Nat.zero_le _
    · rw [if_neg e]
      have e2 : stN Λ b x (m + 1) s = (10 - x) * stN Λ b x m (wvS Λ s false) + x * stN Λ b x m (wvS Λ s true) := by rw [stN, if_neg e]
      have p1 := Nat.mul_le_mul_left (10 - x) (stN_step (Λ := Λ) (b := b) hx m (wvS Λ s false))
      have p2 := Nat.mul_le_mul_left x (stN_step (Λ := Λ) (b := b) hx m (wvS Λ s true))
      rw [e2, Nat.mul_add]
      have q1 : (10 - x) * (10 * stN Λ b x m (wvS Λ s false)) = 10 * ((10 - x) * stN Λ b x m (wvS Λ s false)) := by rw [Nat.mul_left_comm]
      have q2 : x * (10 * stN Λ b x m (wvS Λ s true)) = 10 * (x * stN Λ b x m (wvS Λ s true)) := by rw [Nat.mul_left_comm]
      rw [q1] at p1
      rw [q2] at p2
      exact Nat.add_le_add p1 p2
theorem stN_0 {Λ : LT} {b : Nat} : ∀ (m : Nat) (s : ST), stN Λ b 0 m s = if sP (pas Λ m s) b = 36 then 0 else 10 ^ m
  | 0, s => by
    unfold stN
    rfl
  | m + 1, s => by
    rw [stN]
    have ew : wvS Λ s false = passS Λ s := rfl
    by_cases e : sP s b = 36
    · rw [if_pos e, if_pos (pas_off (m := 0) (Nat.zero_le _) e)]
    · rw [if_neg e, ew, stN_0 m (passS Λ s), Nat.zero_mul, Nat.add_zero]
      show (10 - 0) * (if sP (pas Λ m (passS Λ s)) b = 36 then 0 else 10 ^ m) = if sP (pas Λ m (passS Λ s)) b = 36 then 0 else 10 ^ (m + 1)
      by_cases c : sP (pas Λ m (passS Λ s)) b = 36
      · rw [if_pos c, if_pos c]
      · rw [if_neg c, if_neg c, Nat.pow_succ, Nat.mul_comm]
/-- a season leaves no more -/
theorem livS_on {Λ : LT} {s : ST} {d : Nat} (hΛ : LOK Λ) (hs : SOK Λ s) : onS Λ (livS Λ s d) ≤ onS Λ s := by
  unfold livS
  by_cases e9 : d = 99
  · rw [if_pos e9]; exact passS_PL.on
  · rw [if_neg e9]
    by_cases e : drvN Λ s (d / 10) (d % 10) = 36
    · rw [if_pos e]; exact passS_PL.on
    · rw [if_neg e]
      obtain ⟨q1, q2, q3, q4, q5, q6, q7, q8, q9⟩ := drvN_ok hΛ hs e
      have ok := reachT_ok hΛ hs (b := d / 10) (way := d % 10) (mt := mtN Λ s (d / 10) true) q1 q2 (by rw [← q6]; exact e)
      rw [← q6] at ok
      have c3 := ok.2.2
      have hne : onN Λ s (drvN Λ s (d / 10) (d % 10)) ≠ d / 10 := by
        intro z
        unfold openN at c3
        simp only [Bool.and_eq_true, Bool.or_eq_true, decide_eq_true_eq] at c3
        rcases c3.2.1 with y | y
        · have := hΛ.2.2.1.2
          omega
        · rw [z] at y
          exact y.1 rfl
      have m := movS_on (Λ := Λ) (s := s) hΛ q1 q4 e hne
      have p := (passS_PL (Λ := Λ) (s := movS Λ s (d / 10) (drvN Λ s (d / 10) (d % 10)))).on (Λ := Λ)
      omega
theorem graK_ok {Λ : LT} {s : ST} (hΛ : LOK Λ) (hs : SOK Λ s) : ∀ n, n ≤ lNb Λ → SOK Λ (graK Λ s n)
  | 0, _ => hs
  | n + 1, h => graB_ok hΛ (graK_ok hΛ hs n (by omega)) (by omega)
theorem dayS_ok {Λ : LT} {s : ST} (hs : SOK Λ s) : SOK Λ (dayS s) := hs
theorem passS_ok {Λ : LT} {s : ST} (hΛ : LOK Λ) (hs : SOK Λ s) : SOK Λ (passS Λ s) := by
  have g : SOK Λ (graS Λ s) := graK_ok hΛ hs _ (Nat.le_refl _)
  unfold passS nextS
  split
  · exact growS_ok (dayS_ok g) _
  · exact dayS_ok g
theorem livS_ok {Λ : LT} {s : ST} {d : Nat} (hΛ : LOK Λ) (hs : SOK Λ s) : SOK Λ (livS Λ s d) := by
  unfold livS
  by_cases e9 : d = 99
  · rw [if_pos e9]; exact passS_ok hΛ hs
  · rw [if_neg e9]
    by_cases e : drvN Λ s (d / 10) (d % 10) = 36
    · rw [if_pos e]; exact passS_ok hΛ hs
    · rw [if_neg e]
      obtain ⟨q1, q2, q3, q4, q5, q6, q7, q8, q9⟩ := drvN_ok hΛ hs e
      exact passS_ok hΛ (movS_ok hΛ hs q1 q4 q8 q9)
theorem seaK_on {Λ : LT} {z : Nat} (hΛ : LOK Λ) : ∀ (m k : Nat) (s : ST), SOK Λ s → onS Λ (seaK Λ z m k s) ≤ onS Λ s
  | 0, k, s, hs => Nat.le_refl _
  | m + 1, k, s, hs => by
    unfold seaK
    split
    · exact Nat.le_trans (seaK_on hΛ m (k + 1) _ (livS_ok hΛ hs)) (livS_on hΛ hs)
    · exact Nat.le_refl _
section RES
variable {D : Nat} {σ : Sg} {Λ : LT} {s s0 : ST} {h : HT}
/-- the end of rests: a season, then back -/
theorem lr_end (g : GC D σ Λ s h) (hD : D < 2 ^ 20) (hq1 : hq h = 1) (hk0 : hK h 0 = s0) (a : Int32) {b t : Nat} (hb : b < lNb Λ) (ht : t < 100) : ∃ σ' h', J_L_rests_b440 a (nI b) (if sP s0 b = 36 then -2 else strK Λ b 60 1 s0) (nI t) σ = some (1, σ') ∧ GC D σ' Λ s0 h' ∧ hq h' = 0 ∧ Fc σ σ' := by
  obtain ⟨z, z1, z2⟩ := low_ok a (n := 10000) (by decide) (by decide)
  obtain ⟨m, m1, m2⟩ := low_ok (a >>> ((5 : Int32) &&& 31)) (n := 60) (by decide) (by decide)
  obtain ⟨σ1, r1, r2, r3⟩ := g_season g hD (z := z) (m := 1 + m) (by omega) (by omega) (by omega)
  obtain ⟨σ2, t1, t2, t3⟩ := g_back (q := 0) r2 hq1
  rw [hk0] at t2
  obtain ⟨σ3, u1, u2, u3⟩ := g_starves t2 hD hb
  have so := seaK_on (z := z) g.lk (1 + m) 0 s g.sk
  have o8 : onS Λ s ≤ 8 := onS_le g.lk
  have e1 := sta_on (s := seaK Λ z (1 + m) 0 s) g.lk
  have e2 := sta_on (s := s) g.lk
  refine ⟨σ3, hBack h, ?_, u2, by show hq h - 1 = 0; omega, r3.tr (t3.tr u3)⟩
  unfold J_L_rests_b440
  rw [show J_L_low a 10000 σ = _ from z2 σ, bd1_s, show J_L_low (a >>> ((5 : Int32) &&& 31)) 60 σ = _ from m2 σ, bd1_s, show (1 : Int32) + nI m = nI (1 + m) from by rw [li_1, nI_add], r1, bd2_s, if_neg (nI_nlt0 (by omega)), nI_add, e1, if_neg (nI_nlt0 (by omega)), g_c4 r2, bd1_s, g_c5 r2, bd1_s, nI_add, e2, if_neg (fun y => by have := (nI_ltI (by omega) (by omega)).mp y; omega), t1, bd2_s, if_neg (by decide), u1, bd2_s, if_pos rfl]
/-- whether it is there on that day -/
theorem lr_397 (g : GC D σ Λ s h) (y : Int32 → Int32 → Int32 → Int32 → Int32 → Int32 → Int32 → Sg → Option (Int32 × Sg)) (x2 x3 x4 x12 : Int32) {b n : Nat} (hb : b < lNb Λ) (hn : n < 60) (hs : s = pas Λ n s0) : J_L_rests_b397 y x2 x3 x4 (nI b) (if sP s0 b = 36 then -2 else strK Λ b 60 1 s0) x12 (nI n) σ = y x2 x3 x4 (nI b) (if sP s0 b = 36 then -2 else strK Λ b 60 1 s0) x12 (nI (n + 1)) σ := by
  have a1 : nI n + (1 : Int32) = nI (n + 1) := by rw [li_1, nI_add]
  have p36 := g.p36 hb
  unfold J_L_rests_b397
  rw [a1]
  by_cases e : sP s0 b = 36
  · rw [if_pos e, if_pos (by decide)]
  · rw [if_neg e]
    rcases SA_ok (Λ := Λ) e with ⟨z1, z2⟩ | ⟨m, z1, z2, z3, z4, z5⟩
    · rw [z1, if_pos (by decide)]
    · rw [z3, if_neg (nI_nle (by omega) (by omega)), g_pl g hb, bd1_s, hs]
      unfold J_L_rests_b417
      rw [a1]
      by_cases c : n < m
      · rw [if_pos ((plI_ge (by rw [← hs]; exact p36)).mpr (z4 n c)), if_pos ((nI_ltI (by omega) (by omega)).mpr c), if_pos rfl]
      · rw [z5 n (by omega), if_neg nm4, if_neg (fun y => c ((nI_ltI (by omega) (by omega)).mp y)), if_pos rfl]
/-- the days of rest -/
theorem lr_days (a : Int32) {x b : Nat} (hx : x < lSq Λ) (hb : b < lNb Λ) {v : Int32} (hv : GA Λ s0 x v) : ∀ (k n j D t : Nat) (s : ST) (h : HT) (σ : Sg), n + k = 12 → 1 ≤ n → k < j → D + k < 2 ^ 20 → t < 100 → GC D σ Λ s h → s = pas Λ (n - 1) s0 → hq h = 1 → hK h 0 = s0 → ∃ σ' h', J_L_rests_b329 j a (nI x) v (nI b) (if sP s0 b = 36 then -2 else strK Λ b 60 1 s0) (nI t) (nI n) σ = some (1, σ') ∧ GC (D + k) σ' Λ s0 h' ∧ hq h' = 0 ∧ Fc σ σ' := by
  have e12 : (12 : Int32) = nI 12 := rfl
  intro k
  induction k with
  | zero =>
    intro n j D t s h σ hn h1 hj hD ht g hs hq1 hk0
    obtain ⟨j, rfl⟩ : ∃ i, j = i + 1 := ⟨j - 1, by omega⟩
    obtain ⟨σ1, h1', r1, r2⟩ := lr_end g (by omega) hq1 hk0 a hb ht
    refine ⟨σ1, h1', ?_, r2⟩
    rw [J_L_rests_b329, if_pos (by rw [e12, nI_leI (by omega) (by omega)]; omega)]
    exact r1
  | succ k ih =>
    intro n j D t s h σ hn h1 hj hD ht g hs hq1 hk0
    obtain ⟨j, rfl⟩ : ∃ i, j = i + 1 := ⟨j - 1, by omega⟩
    rw [J_L_rests_b329, if_neg (by rw [e12, nI_leI (by omega) (by omega)]; omega), g_c7 g, bd1_s]
    by_cases lo : lostI Λ s = 0
    · obtain ⟨σ1, r1, r2, r3⟩ := g_rest g (by omega) lo
      have dd := g.d
      have hs1 : passS Λ s = pas Λ n s0 := by
        rw [hs, pas_add]
        congr 1
        omega
      obtain ⟨σ2, h2, t1, t2, t3, t4⟩ := ih (n + 1) j (D + 1) n (passS Λ s) (hAdd h s 99) σ1 (by omega) (by omega) (by omega) (by omega) (by omega) r2 (by rw [hs1]; rfl) hq1 hk0
      refine ⟨σ2, h2, ?_, by rw [show D + (k + 1) = D + 1 + k by omega]; exact t2, t3, r3.tr t4⟩
      have c397 : J_L_rests_b397 (fun x2 x3 x4 x5 x6 x12 x13 σ => J_L_rests_b329 j x2 x3 x4 x5 x6 x12 x13 σ) a (nI x) v (nI b) (if sP s0 b = 36 then -2 else strK Λ b 60 1 s0) (nI n) (nI n) σ1 = some (1, σ2) := by
        rw [lr_397 r2 _ _ _ _ _ hb (show n < 60 by omega) hs1]
        exact t1
      have g8 := (r2.sk.1 x hx).1
      rw [if_pos lo, r1, bd2_s, if_pos (show (1 : Int32) ≤ nI (sD s + 1) from by rw [li_1, nI_leI (by omega) (by omega)]; omega)]
      rcases hv with ⟨z1, z2⟩ | ⟨z1, z2⟩ | ⟨m, z1, z2, z3, z4, z5⟩
      · rw [z1] at c397 ⊢
        rw [if_pos (by decide), if_neg (fun y => nI_nem4 (by omega) y.symm)]
        exact c397
      · rw [z1] at c397 ⊢
        rw [if_pos (by decide), if_neg (fun y => nI_nem2 (by omega) y.symm)]
        exact c397
      · rw [z2] at c397 ⊢
        have gr : J_X7_square (nI x) 0 σ1 = some (nI (sG (pas Λ n s0) x)) := by rw [g_sq0 r2 hx, if_neg z3, hs1]
        rw [hs1] at g8
        by_cases m0 : m = 0
        · rw [if_pos (show nI m ≤ (0 : Int32) from by rw [m0]; decide), if_neg (fun y => by have := (nI_inj (by omega) (by omega)).mp y; omega)]
          exact c397
        · rw [if_neg (nI_nle (by omega) (by omega))]
          by_cases cm : m ≤ n
          · rw [if_pos ((nI_leI (by omega) (by omega)).mpr cm)]
            by_cases em : m = n
            · rw [if_pos (by rw [em]), gr, bd1_s, if_neg (show ¬ nI (sG (pas Λ n s0) x) < (1 : Int32) from by rw [li_1, nI_ltI (by omega) (by omega)]; rw [em] at z5; omega)]
              exact c397
            · rw [if_neg (fun y => em ((nI_inj (by omega) (by omega)).mp y))]
              exact c397
          · rw [if_neg (fun y => cm ((nI_leI (by omega) (by omega)).mp y)), gr, bd1_s, z4 n (by omega), if_neg (by decide), if_neg (fun y => by have := (nI_inj (by omega) (by omega)).mp y; omega)]
            exact c397
    · obtain ⟨σ1, h1', r1, r2, r3⟩ := lr_end g (by omega) hq1 hk0 a hb ht
      refine ⟨σ1, h1', ?_, r2.le (by omega), r3⟩
      rw [if_neg lo]
      exact r1
theorem gcd_parts {A B : Nat} (hB : 0 < B) : ∃ p q G, 0 < G ∧ A = p * G ∧ B = q * G ∧ A / Nat.gcd A B = p ∧ B / Nat.gcd A B = q ∧ 0 < q := by
  have gp := Nat.gcd_pos_of_pos_right A hB
  have hA := Nat.div_mul_cancel (Nat.gcd_dvd_left A B)
  have hB' := Nat.div_mul_cancel (Nat.gcd_dvd_right A B)
  refine ⟨A / Nat.gcd A B, B / Nat.gcd A B, Nat.gcd A B, gp, hA.symm, hB'.symm, rfl, rfl, ?_⟩
  exact Nat.div_pos (Nat.le_of_dvd hB (Nat.gcd_dvd_right A B)) gp
/-- the wolves -/
theorem lr_wolves (a : Int32) {x b y : Nat} (hx : x < lSq Λ) (hb : b < lNb Λ) (hy : y ≤ 10) {v : Int32} (hv : GA Λ s x v) (e : sP s b ≠ 36) (hD : D + 20 < 2 ^ 20) (hq1 : hq h = 1) (hk0 : hK h 0 = s) : ∀ (k n j p q A B G : Nat) (σ : Sg), n + k = 5 → k < j → GC D σ Λ s h → 0 < G → A = p * G → B = q * G → 0 < B → stN Λ b y n s * B ≤ A * 10 ^ n → p ≤ 10000 → q ≤ 10000 → ∃ σ' h', J_L_rests_b183 j a (nI x) v (nI b) (strK Λ b 60 1 s) (nI y) (lN p) (lN q) (nI n) σ = some (1, σ') ∧ GC (D + 11) σ' Λ s h' ∧ hq h' = 0 ∧ Fc σ σ' := by
  intro k
  have sa := SA_ok (Λ := Λ) e
  have eS : (if sP s b = 36 then -2 else strK Λ b 60 1 s) = strK Λ b 60 1 s := if_neg e
  induction k with
  | zero =>
    intro n j p q A B G σ hn hj g h1 h2 h3 h4 h5 h6 h7
    obtain ⟨j, rfl⟩ : ∃ i, j = i + 1 := ⟨j - 1, by omega⟩
    obtain ⟨σ1, h1', r1, r2⟩ := lr_days a hx hb hv 11 1 FU D 0 s h σ rfl (Nat.le_refl _) (by rw [FU_eq]; omega) (by omega) (by decide) g rfl hq1 hk0
    refine ⟨σ1, h1', ?_, r2⟩
    rw [J_L_rests_b183, if_pos (show (5 : Int32) ≤ nI n from by rw [li_5, nI_leI (by omega) (by omega)]; omega)]
    rw [eS] at r1
    exact r1
  | succ k ih =>
    intro n j p q A B G σ hn hj g h1 h2 h3 h4 h5 h6 h7
    obtain ⟨j, rfl⟩ : ∃ i, j = i + 1 := ⟨j - 1, by omega⟩
    have B0 : 0 < 10 ^ n := Nat.pow_pos (by decide)
    have Bn : 10 ^ n ≤ 10000 := Nat.pow_le_pow_right (by decide) (show n ≤ 4 by omega)
    have An := stN_le (Λ := Λ) (b := b) (x := y) hy n s
    obtain ⟨p', q', G', i1, i2, i3, i4, i5, i6⟩ := gcd_parts (A := stN Λ b y n s) B0
    obtain ⟨σ1, r1, r2, r3⟩ := g_wolves g (by omega) hb (show n ≤ 8 by omega) hy (w := 0) (by decide) e
    obtain ⟨σ2, t1, t2, t3⟩ := g_wolves r2 (by omega) hb (show n ≤ 8 by omega) hy (w := 1) (by decide) e
    obtain ⟨σ3, u1, u2, u3⟩ := g_wolves t2 (by omega) hb (show n ≤ 8 by omega) (show 0 ≤ 10 by decide) (w := 0) (by decide) e
    rw [if_pos rfl, i4] at r1
    rw [if_neg (by decide), i5] at t1
    rw [if_pos rfl] at u1
    have q'le : q' ≤ 10000 := by
      have : q' ≤ q' * G' := Nat.le_mul_of_pos_right _ i1
      omega
    have p'q' : p' ≤ q' := by
      rw [i2, i3] at An
      exact Nat.le_of_mul_le_mul_right An i1
    have st : stN Λ b y (n + 1) s * 10 ^ n ≤ stN Λ b y n s * 10 ^ (n + 1) := by
      have := Nat.mul_le_mul_right (10 ^ n) (stN_step (Λ := Λ) (b := b) hy n s)
      rw [Nat.pow_succ, Nat.mul_comm (10 ^ n) 10, ← Nat.mul_assoc, Nat.mul_comm (stN Λ b y n s) 10]
      exact this
    obtain ⟨σ4, h4', w1, w2, w3, w4⟩ := ih (n + 1) j p' q' (stN Λ b y n s) (10 ^ n) G' σ3 (by omega) (by omega) u2 i1 i2 i3 B0 st (by omega) q'le
    refine ⟨σ4, h4', ?_, w2, w3, r3.tr (t3.tr (u3.tr w4))⟩
    have s2 : ¬ strK Λ b 60 1 s = -2 := by
      rcases sa with ⟨z1, -⟩ | ⟨m, z1, z2, z3, -⟩
      · rw [z1]; decide
      · rw [z3]; exact nI_nem2 (by omega)
    have dv : 100000 % q' = 0 := by
      have d1 : q' ∣ 10 ^ n := ⟨G', i3⟩
      have d2 : 10 ^ n ∣ 10 ^ 5 := Nat.pow_dvd_pow 10 (by omega)
      exact Nat.mod_eq_zero_of_dvd (Nat.dvd_trans d1 d2)
    have cr : p' * q ≤ p * q' := by
      have z : p' * q * (G' * G) ≤ p * q' * (G' * G) := by
        have e1 : p' * q * (G' * G) = p' * G' * (q * G) := by rw [Nat.mul_mul_mul_comm]
        have e2 : p * q' * (G' * G) = p * G * (q' * G') := by rw [Nat.mul_comm G' G, Nat.mul_mul_mul_comm]
        rw [e1, e2, ← i2, ← i3, ← h2, ← h3]
        exact h5
      exact Nat.le_of_mul_le_mul_right z (Nat.mul_pos i1 h1)
    have b1 : p' * q ≤ 10000 * 10000 := Nat.mul_le_mul (by omega) h7
    have b2 : p * q' ≤ 10000 * 10000 := Nat.mul_le_mul h6 q'le
    -- the wolf that never comes
    have c277 : J_L_rests_b277 (fun x2 x3 x4 x5 x6 x7 x8 x10 x12 σ => J_L_rests_b183 j x2 x3 x4 x5 x6 x7 x8 x10 x12 σ) a (nI x) v (nI b) (strK Λ b 60 1 s) (nI y) (nI n) (lN p') (lN q') σ2 = some (1, σ4) := by
      unfold J_L_rests_b277
      rw [show J_X7_wolves (nI b) (nI n) 0 0 σ2 = _ from u1, bd2_s, show nI n + (1 : Int32) = nI (n + 1) from by rw [li_1, nI_add]]
      have on : sP (pas Λ n s) b ≠ 36 → stN Λ b 0 n s / Nat.gcd (stN Λ b 0 n s) (10 ^ n) = 1 := fun z => by
        rw [stN_0, if_neg z, Nat.gcd_self, Nat.div_self B0]
      have off : sP (pas Λ n s) b = 36 → stN Λ b 0 n s / Nat.gcd (stN Λ b 0 n s) (10 ^ n) = 0 := fun z => by
        rw [stN_0, if_pos z, Nat.zero_div]
      rcases sa with ⟨z1, z2⟩ | ⟨m, z1, z2, z3, z4, z5⟩
      · rw [z1] at w1 ⊢
        rw [on (z2 n (by omega)), if_pos (by decide), if_pos (show nI 1 = (1 : Int32) from rfl)]
        exact w1
      · rw [z3] at w1 ⊢
        rw [if_neg (nI_nle (by omega) (by omega))]
        by_cases c : n < m
        · rw [if_pos ((nI_ltI (by omega) (by omega)).mpr c), on (z4 n c), if_pos (show nI 1 = (1 : Int32) from rfl)]
          exact w1
        · rw [if_neg (fun y => c ((nI_ltI (by omega) (by omega)).mp y)), off (z5 n (by omega)), if_pos (show nI 0 = (0 : Int32) from rfl)]
          exact w1
    rw [J_L_rests_b183, if_neg (show ¬ (5 : Int32) ≤ nI n from by rw [li_5, nI_leI (by omega) (by omega)]; omega), if_neg s2, show J_X7_wolves (nI b) (nI n) (nI y) 0 σ = _ from r1, bd2_s, show J_X7_wolves (nI b) (nI n) (nI y) 1 σ1 = _ from t1, bd2_s, nI_l (show p' < 2 ^ 31 by omega), nI_l (show q' < 2 ^ 31 by omega), if_neg (fun z => by have := (lg_cmp_lt _ _).mp z; have := (lN_lt (b := 0) (by omega) (by omega)).mp this; omega), if_neg (fun z => by have := (lg_cmp_gt _ _).mp z; have := (lN_lt (by omega) (by omega)).mp this; omega), if_neg (fun z => by have := (lN_eq (b := 0) (by omega) (by omega)).mp z; omega), show (100000 : Int64) = lN 100000 from rfl, rmL_lN (by omega) (by omega), dv, if_pos (by decide), lN_mul, lN_mul, if_neg (fun z => by have := (lg_cmp_gt _ _).mp z; have := (lN_lt (by omega) (by omega)).mp this; omega)]
    by_cases n0 : n = 0
    · have e0 : p' = q' := by
        have st0 : stN Λ b y n s = 1 := by
          rw [n0]
          unfold stN
          exact if_neg e
        rw [n0] at i3
        rw [st0] at i2
        have : p' * G' = q' * G' := by rw [← i2, ← i3]
        exact Nat.eq_of_mul_eq_mul_right i1 this
      rw [if_pos (neq li_0 n0), if_pos ((lg_cmp_eq _ _).mpr (by rw [e0]))]
      exact c277
    · rw [if_neg (nne li_0 (by omega) (by omega) n0)]
      exact c277
theorem la_rests (g : GC D σ Λ s h) (l : LX σ Λ) (hD : D + 30 < 2 ^ 20) (hq0 : hq h = 0) (a : Int32) : ∃ σ' h', J_L_rests a σ = some (1, σ') ∧ GC (D + 11) σ' Λ s h' ∧ hq h' = 0 ∧ Fc σ σ' := by
  have sq := g.lk.sq
  have n8 := g.nb
  obtain ⟨x, x1, x2⟩ := low_ok a (n := lSq Λ) (by omega) (by omega)
  obtain ⟨b, hb, b2⟩ := low_ok (a >>> ((6 : Int32) &&& 31)) (n := lNb Λ) (by omega) (by omega)
  obtain ⟨y, y1, y2⟩ := low_ok (a >>> ((9 : Int32) &&& 31)) (n := 11) (by decide) (by decide)
  obtain ⟨σ1, r1, r2, r3⟩ := g_again g (by omega) x1
  obtain ⟨σ2, t1, t2, t3⟩ := g_starves r2 (by omega) hb
  have l1 := l.fc r3
  have ga : GA Λ s x _ := GA_ok (Λ := Λ) (s := s) (x := x)
  have g8 := (g.sk.1 x x1).1
  have p36 := g.p36 hb
  obtain ⟨σ3, u1, u2, u3⟩ := g_keep t2 (by omega)
  rw [hq0] at u1
  have q3 : hq (hKeep h s) = 1 := by show hq h + 1 = 1; omega
  have k3 : hK (hKeep h s) 0 = s := if_pos hq0.symm
  unfold J_L_rests
  rw [l.1, x2, bd1_s, r1, bd2_s, l1.2.2.1, b2, bd1_s, t1, bd2_s, show J_L_low (a >>> ((9 : Int32) &&& 31)) 11 σ2 = _ from y2 σ2, bd1_s]
  generalize hV : (if lM Λ x = 9 then (-2 : Int32) else agaK Λ x 61 0 s) = V at ga
  -- the last part
  have q183 : ∃ σ' h', J_L_rests_b183 FU a (nI x) V (nI b) (if sP s b = 36 then -2 else strK Λ b 60 1 s) (nI y) 1 1 0 σ3 = some (1, σ') ∧ GC (D + 11) σ' Λ s h' ∧ hq h' = 0 ∧ Fc σ3 σ' := by
    by_cases e : sP s b = 36
    · obtain ⟨σ', h', w1, w2⟩ := lr_days a x1 hb ga 11 1 FU D 0 s (hKeep h s) σ3 rfl (Nat.le_refl _) (by rw [FU_eq]; omega) (by omega) (by decide) u2 rfl q3 k3
      refine ⟨σ', h', ?_, w2⟩
      rw [if_pos e] at w1 ⊢
      have e183 : J_L_rests_b183 (999999999999999 + 1) a (nI x) V (nI b) (-2) (nI y) 1 1 0 σ3 = some (1, σ') := by
        rw [J_L_rests_b183, if_neg (by decide), if_pos rfl]
        exact w1
      rw [FU_eq]
      exact e183
    · obtain ⟨σ', h', w1, w2⟩ := lr_wolves a x1 hb (show y ≤ 10 by omega) ga e (by omega) q3 k3 5 0 FU 1 1 1 1 1 σ3 rfl (by rw [FU_eq]; omega) u2 (by decide) rfl rfl (by decide) (by unfold stN; rw [if_neg e]; decide) (by decide) (by decide)
      refine ⟨σ', h', ?_, w2⟩
      rw [if_neg e]
      exact w1
  obtain ⟨σ', h', w1, w2, w3, w4⟩ := q183
  refine ⟨σ', h', ?_, w2, w3, r3.tr (t3.tr (u3.tr w4))⟩
  have st60 : ¬ (if sP s b = 36 then -2 else strK Λ b 60 1 s) = (0 : Int32) ∧ ¬ (60 : Int32) < (if sP s b = 36 then -2 else strK Λ b 60 1 s) ∧ ((if sP s b = 36 then -2 else strK Λ b 60 1 s) = (-2 : Int32) ↔ sP s b = 36) := by
    by_cases e : sP s b = 36
    · rw [if_pos e]
      exact ⟨by decide, by decide, fun _ => e, fun _ => rfl⟩
    · rw [if_neg e]
      rcases SA_ok (Λ := Λ) e with ⟨z1, -⟩ | ⟨m, z1, z2, z3, -⟩
      · rw [z1]
        exact ⟨by decide, by decide, fun z => absurd z (by decide), fun z => absurd z e⟩
      · rw [z3]
        exact ⟨nI_ne0 (by omega) (by omega), by rw [li_60, nI_ltI (by omega) (by omega)]; omega, fun z => absurd z (nI_nem2 (by omega)), fun z => absurd z e⟩
  obtain ⟨s1, s2, s3⟩ := st60
  generalize (if sP s b = 36 then -2 else strK Λ b 60 1 s) = S at *
  have v60 : ¬ (60 : Int32) < V := by
    rcases ga with ⟨z1, -⟩ | ⟨z1, -⟩ | ⟨m, z1, z2, -⟩
    · rw [z1]; decide
    · rw [z1]; decide
    · rw [z2, li_60, nI_ltI (by omega) (by omega)]; omega
  have c148 : ∀ t : Int32, J_L_rests_b148 a (nI x) V (nI b) S (nI y) 1 1 t t σ2 = some (1, σ') := by
    intro t
    unfold J_L_rests_b148
    rw [if_pos rfl, if_neg s1, if_neg s2, if_neg v60, u1, bd2_s, if_pos (by decide)]
    exact w1
  have c118 : ∀ t : Int32, J_L_rests_b118 a (nI x) V (nI b) S (nI y) 1 1 t t σ2 = some (1, σ') := by
    intro t
    unfold J_L_rests_b118
    rw [if_pos rfl]
    by_cases e : sP s b = 36
    · rw [if_pos (s3.mpr e), g_pl t2 hb, bd1_s, e, if_neg nm4]
      exact c148 1
    · rw [if_neg (fun z => e (s3.mp z)), g_pl t2 hb, bd1_s, if_pos ((plI_ge p36).mpr e)]
      exact c148 0
  have q0 := g_sq0 t2 x1
  have c93 : J_L_rests_b64 a (nI x) V (nI b) S (nI y) 1 1 (if V = -2 then 1 else 0) σ2 = some (1, σ') := by
    unfold J_L_rests_b64
    rw [q0, bd1_s]
    rcases ga with ⟨z1, z2⟩ | ⟨z1, z2⟩ | ⟨m, z1, z2, z3, z4, z5⟩
    · have m9 : lM Λ x ≠ 9 := by
        intro m9
        rw [if_pos m9] at hV
        rw [z1] at hV
        exact absurd hV (by decide)
      rw [z1] at c118 ⊢
      rw [if_neg m9, if_neg (nne li_9 (by omega) (by omega) (by omega)), if_pos (show (if (-4 : Int32) = -2 then (1 : Int32) else 0) = 0 from by decide), if_neg (show ¬ (-4 : Int32) = 0 from by decide)]
      unfold J_L_rests_b93
      rw [q0, bd1_s, if_neg m9, z2, if_pos (by decide)]
      exact c118 0
    · rw [z1] at c118 ⊢
      rw [if_pos z2, if_pos (show nI 9 = (9 : Int32) from rfl), if_pos rfl, if_pos rfl, if_neg (by decide)]
      unfold J_L_rests_b93
      rw [q0, bd1_s, if_pos z2, if_neg (show ¬ nI 9 ≤ (0 : Int32) from by decide), bd1_s, if_pos (show (9 : Int32) ≤ nI 9 from by decide)]
      exact c118 0
    · rw [z2] at c118 ⊢
      rw [if_neg z3, if_neg (nne li_9 (by omega) (by omega) (by omega)), if_neg (nI_nem2 (by omega)), if_pos rfl]
      have nine : ¬ (9 : Int32) ≤ nI (sG s x) := by rw [li_9, nI_leI (by omega) (by omega)]; omega
      by_cases m0 : m = 0
      · rw [m0] at z5
        have z5' : sG s x ≠ 0 := z5
        rw [if_pos (neq li_0 m0)]
        unfold J_L_rests_b93
        rw [q0, bd1_s, if_neg z3, if_neg (nI_nle (by omega) (by omega)), bd1_s, if_neg nine]
        exact c118 1
      · have := z4 0 (by omega)
        have z4' : sG s x = 0 := this
        rw [if_neg (nne li_0 (by omega) (by omega) m0)]
        unfold J_L_rests_b93
        rw [q0, bd1_s, if_neg z3, z4', if_pos (by decide)]
        exact c118 0
  by_cases v2 : V = -2
  · rw [if_pos v2] at c93 ⊢
    exact c93
  · rw [if_neg v2] at c93 ⊢
    exact c93
end RES
