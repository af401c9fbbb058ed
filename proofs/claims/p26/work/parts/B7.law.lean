/-! the law's loop -/
theorem bd3_s {N n N' : Nat} {r : Int32} {s σ' : Sg} {o : Option (Int32 × Nat × Sg)} {k : Int32 → Nat → Sg → Option (Int32 × Nat × Sg)} {t : Int32} (h : o = some (r, n, s)) (h1 : N ≤ n) (h2 : k r n s = some (t, N', σ')) (h3 : n ≤ N') : bd3 N o k = some (t, N', σ') := by
  rw [h]
  unfold bd3
  dsimp only
  rw [if_pos h1, h2]
  unfold ckA
  dsimp only
  rw [if_pos h3]
theorem cell_ok {Ln : Nat} {xs : Nat → Int32} (hL : Ln ≤ 260) {k : Nat} (hk : k < 2 ^ 20) : ∃ v, ∀ σ : Sg, J_L_cell Ln xs (nI k) σ = some v := by
  by_cases c : Ln ≤ k
  · exact ⟨_, fun σ => by
      unfold J_L_cell
      rw [if_pos (show Int32.ofNat Ln ≤ nI k from (nI_leI (by omega) (by omega)).mpr c)]⟩
  · exact ⟨xs (nI k).toNatClampNeg, fun σ => by
      unfold J_L_cell
      rw [if_neg (show ¬ Int32.ofNat Ln ≤ nI k from fun z => c ((nI_leI (a := Ln) (by omega) (by omega)).mp z)), if_pos ((inb_nI (by omega)).mpr (by omega))]⟩
/-- what is told otherwise -/
def OI (k d : Nat) (a : Nat × Int32) : Prop := a.1 ≤ 100 * k + d ∧ ((a.1 = 0 ∧ a.2 = -4) ∨ (a.1 ≠ 0 ∧ ∃ t, t < 100 * k + d ∧ a.2 = nI t))
theorem othA_ok {Λ : LT} {n : Nat} {P : Nat → ST} {T : Nat → Nat} {b x k : Nat} : ∀ (m d : Nat) (a : Nat × Int32), d + m = 100 → OI k d a → OI (k + 1) 0 (othA Λ n P T b x k m d a)
  | 0, d, a, h, o => by
    have e : 100 * (k + 1) + 0 = 100 * k + d := by omega
    unfold OI at o ⊢
    rw [e]
    exact o
  | m + 1, d, a, h, o => by
    rw [othA]
    refine othA_ok m (d + 1) _ (by omega) ?_
    by_cases c : othX Λ n P T b x (n - 1 - k) d = true
    · rw [if_pos c]
      refine ⟨by show a.1 + 1 ≤ _; have := o.1; omega, Or.inr ⟨Nat.succ_ne_zero _, ?_⟩⟩
      show ∃ t, t < _ ∧ (if a.1 = 0 then nI (100 * k + d) else a.2) = nI t
      by_cases a0 : a.1 = 0
      · rw [if_pos a0]
        exact ⟨_, by omega, rfl⟩
      · rw [if_neg a0]
        rcases o.2 with ⟨z, -⟩ | ⟨-, t, t1, t2⟩
        · exact absurd z a0
        · exact ⟨t, by omega, t2⟩
    · rw [if_neg c]
      refine ⟨by have := o.1; omega, ?_⟩
      rcases o.2 with z | ⟨z, t, t1, t2⟩
      · exact Or.inl z
      · exact Or.inr ⟨z, t, by omega, t2⟩
theorem othB_ok {Λ : LT} {n : Nat} {P : Nat → ST} {T : Nat → Nat} {b x : Nat} : ∀ (m k : Nat) (a : Nat × Int32), OI k 0 a → OI (k + m) 0 (othB Λ n P T b x m k a)
  | 0, k, a, o => o
  | m + 1, k, a, o => by
    rw [othB, show k + (m + 1) = k + 1 + m by omega]
    exact othB_ok m (k + 1) _ (othA_ok 100 0 a rfl o)
section LAW
variable {D : Nat} {σ : Sg} {Λ : LT} {s : ST} {h : HT} {Ln : Nat} {xs : Nat → Int32}
/-- behind the three drives: what was told otherwise -/
theorem ll_end (g : GC D σ Λ s h) (l : LX σ Λ) (hD : D < 2 ^ 20) (y : Int32 → Nat → Sg → Option (Int32 × Nat × Sg)) (x : Int32) {n b N : Nat} (n6 : n < 6) (hb : b < lNb Λ) : ∃ σ', GC D σ' Λ s h ∧ Fc σ σ' ∧ ∀ r, y (nI (n + 1)) N σ' = r → ∀ j, J_L_law_b196 Ln xs y (j + 1) (nI n) x (nI b) 3 N σ = r := by
  have sq := g.lk.sq
  have n8 := g.pg.1
  obtain ⟨q, q1, q2⟩ := low_ok (x >>> ((16 : Int32) &&& 31)) (n := lSq Λ) (by omega) (by omega)
  obtain ⟨σ1, r1, r2, r3⟩ := g_oth g hD hb q1 (w := 0) (by decide)
  obtain ⟨σ2, t1, t2, t3⟩ := g_oth r2 hD hb q1 (w := 1) (by decide)
  refine ⟨σ2, t2, r3.tr t3, fun r hr j => ?_⟩
  have oi := othB_ok (Λ := Λ) (n := hn h) (P := hP h) (T := hT h) (b := b) (x := q) (hn h) 0 (0, -4) ⟨Nat.zero_le _, Or.inl ⟨rfl, rfl⟩⟩
  rw [Nat.zero_add] at oi
  rw [if_pos rfl] at r1
  rw [if_neg (by decide)] at t1
  have c332 : ∀ (v : Int32) (m : Nat) (t : Int32), m < 1000 → v < nI (100 * hn h) → J_L_law_b332 Ln xs y (nI n) (nI m) v N t t σ2 = r := by
    intro v m t hm hv
    unfold J_L_law_b332
    rw [if_pos rfl, if_neg (nI_nlt0 (by omega)), g_c10 t2, bd1_s, li_100, nI_mul, if_pos hv, li_1, nI_add]
    exact hr
  rw [J_L_law_b196, if_pos (by decide), l.1, q2 σ, bd1_s, show J_X7_otherwise (nI b) (nI q) 0 σ = _ from r1, bd2_s, (l.fc r3).1, q2 σ1, bd1_s, show J_X7_otherwise (nI b) (nI q) 1 σ1 = _ from t1, bd2_s]
  rcases oi with ⟨o0, ⟨o1, o2⟩ | ⟨o1, t, o2, o3⟩⟩
  · rw [o1, o2, if_pos (show nI 0 = 0 from rfl), if_pos rfl]
    exact c332 (-4) 0 1 (by decide) (Int32.lt_of_lt_of_le (by decide) (nI_ge0 (by omega)))
  · rw [o3, if_neg (nne li_0 (by omega) (by omega) o1), if_neg (nI_nem4 (by omega))]
    exact c332 (nI t) _ 0 (by omega) ((nI_ltI (by omega) (by omega)).mpr (by omega))
/-- the three drives -/
theorem ll_three (y : Int32 → Nat → Sg → Option (Int32 × Nat × Sg)) (x : Int32) {n b N : Nat} (n6 : n < 6) : ∀ (k i j D : Nat) (s : ST) (h : HT) (σ : Sg), i + k = 3 → k < j → D + k + 3 < 2 ^ 20 → GC D σ Λ s h → LX σ Λ → b < lNb Λ → ∃ σ' s' h', GC (D + k) σ' Λ s' h' ∧ hq h' = hq h ∧ Fc σ σ' ∧ ∀ r, y (nI (n + 1)) N σ' = r → J_L_law_b196 Ln xs y j (nI n) x (nI b) (nI i) N σ = r := by
  intro k
  induction k with
  | zero =>
    intro i j D s h σ hi hj hD g l hb
    obtain ⟨j, rfl⟩ : ∃ i, j = i + 1 := ⟨j - 1, by omega⟩
    obtain ⟨σ1, r1, r2, r3⟩ := ll_end (Ln := Ln) (xs := xs) g l (by omega) y x n6 hb (N := N)
    refine ⟨σ1, s, h, r1, rfl, r2, fun r hr => ?_⟩
    rw [show i = 3 by omega]
    exact r3 r hr j
  | succ k ih =>
    intro i j D s h σ hi hj hD g l hb
    obtain ⟨j, rfl⟩ : ∃ i, j = i + 1 := ⟨j - 1, by omega⟩
    have n8 := g.nb
    obtain ⟨c, c1, c2⟩ := low_ok (x >>> (((3 : Int32) * nI i) &&& 31)) (n := lNb Λ) (by omega) (by omega)
    obtain ⟨w, w1, w2⟩ := and_nI (x >>> (((10 : Int32) + ((2 : Int32) * nI i)) &&& 31)) (m := 3) (by decide)
    have w2' : ((x >>> (((10 : Int32) + ((2 : Int32) * nI i)) &&& 31)) &&& (3 : Int32)) = nI w := w2
    have a1 : nI i + (1 : Int32) = nI (i + 1) := by rw [li_1, nI_add]
    have hd : ∀ r, J_L_law_b196 Ln xs y (j + 1) (nI n) x (nI b) (nI i) N σ = r ↔ (bd2 (J_X7_drive (nI c) (nI w) σ) fun r236 s236 => (if r236 < (-2 : Int32) then (some ((0 : Int32), N, s236)) else (if 0 ≤ r236 then (J_L_law_b196 Ln xs y j (nI n) x (nI b) (nI i + (1)) N s236) else (bd2 (J_X7_rest s236) fun r254 s254 => (if (-2 : Int32) ≤ r254 then (J_L_law_b196 Ln xs y j (nI n) x (nI b) (nI i + (1)) N s254) else (some ((0 : Int32), N, s254))))))) = r := by
      intro r
      rw [J_L_law_b196, if_neg (show ¬ (3 : Int32) ≤ nI i from by rw [li_3, nI_leI (by omega) (by omega)]; omega), l.2.2.1, c2 σ, bd1_s, w2']
    by_cases e : lostI Λ s = 0 ∧ drvN Λ s c w ≠ 36
    · have sq := g.lk.sq
      obtain ⟨q1, q2, q3, q4, q5, q6, q7, q8, q9⟩ := drvN_ok g.lk g.sk e.2
      obtain ⟨σ1, r1, r2, r3⟩ := g_drive g (by omega) c1 (show w < 4 by omega) e.1 e.2
      obtain ⟨σ2, s2, h2, t1, t2, t3, t4⟩ := ih (i + 1) j (D + 1) _ _ σ1 (by omega) (by omega) (by omega) r2 (l.fc r3) hb
      refine ⟨σ2, s2, h2, by rw [show D + (k + 1) = D + 1 + k by omega]; exact t1, t2, r3.tr t3, fun r hr => ?_⟩
      rw [hd, r1, bd2_s, if_neg (fun z => nI_nlt0 (show drvN Λ s c w < 2 ^ 31 by omega) (Int32.lt_trans z (by decide))), if_pos (nI_ge0 (by omega)), a1]
      exact t4 r hr
    · have r1 := g_drive0 g (by omega) c1 (show w < 4 by omega) e
      by_cases lo : lostI Λ s = 0
      · obtain ⟨σ1, u1, u2, u3⟩ := g_rest g (by omega) lo
        have dd := g.d
        obtain ⟨σ2, s2, h2, t1, t2, t3, t4⟩ := ih (i + 1) j (D + 1) _ _ σ1 (by omega) (by omega) (by omega) u2 (l.fc u3) hb
        refine ⟨σ2, s2, h2, by rw [show D + (k + 1) = D + 1 + k by omega]; exact t1, t2, u3.tr t3, fun r hr => ?_⟩
        rw [hd, r1, bd2_s, if_neg (by decide), if_neg (by decide), u1, bd2_s, if_pos (Int32.le_trans (by decide) (nI_ge0 (by omega))), a1]
        exact t4 r hr
      · obtain ⟨σ2, s2, h2, t1, t2, t3, t4⟩ := ih (i + 1) j (D + 1) s h σ (by omega) (by omega) (by omega) (g.le (by omega)) l hb
        refine ⟨σ2, s2, h2, by rw [show D + (k + 1) = D + 1 + k by omega]; exact t1, t2, t3, fun r hr => ?_⟩
        rw [hd, r1, bd2_s, if_neg (by decide), if_neg (by decide), g_rest0 g lo, bd2_s, if_pos (by decide), a1]
        exact t4 r hr
/-- rests, what was told otherwise, the drives -/
theorem ll_134 (g : GC D σ Λ s h) (l : LX σ Λ) (hD : D + 60 < 2 ^ 20) (hq0 : hq h = 0) (y : Int32 → Nat → Sg → Option (Int32 × Nat × Sg)) (x : Int32) {n b N : Nat} (n6 : n < 6) (hb : b < lNb Λ) : ∃ σ' s' h', GC (D + 14) σ' Λ s' h' ∧ hq h' = 0 ∧ Fc σ σ' ∧ ∀ r, y (nI (n + 1)) N σ' = r → J_L_law_b134 Ln xs y (nI n) x (nI b) N σ = r := by
  have sq := g.lk.sq
  obtain ⟨σ1, h1, r1, r2, r3, r4⟩ := la_rests g l (by omega) hq0 (x >>> ((2 : Int32) &&& 31))
  have n8 := r2.pg.1
  by_cases e : hn h1 = 0
  · obtain ⟨q, q1, q2⟩ := low_ok (x >>> ((7 : Int32) &&& 31)) (n := lSq Λ) (by omega) (by omega)
    obtain ⟨σ2, t1, t2, t3⟩ := g_oth r2 (by omega) hb q1 (w := 0) (by decide)
    obtain ⟨σ3, u1, u2, u3⟩ := g_oth t2 (by omega) hb (show 0 < lSq Λ by omega) (w := 1) (by decide)
    rw [if_pos rfl, e] at t1
    rw [if_neg (by decide), e] at u1
    obtain ⟨σ4, s4, h4, v1, v2, v3, v4⟩ := ll_three (Ln := Ln) (xs := xs) y x n6 (N := N) 3 0 FU (D + 11) s h1 σ3 rfl (by rw [FU_eq]; omega) (by omega) u2 (((l.fc r4).fc t3).fc u3) hb
    refine ⟨σ4, s4, h4, v1, by rw [v2]; exact r3, r4.tr (t3.tr (u3.tr v3)), fun r hr => ?_⟩
    unfold J_L_law_b134
    rw [r1, bd2_s, if_neg (by decide), g_c10 r2, bd1_s, e, if_pos (show nI 0 = 0 from rfl), (l.fc r4).1, q2 σ1, bd1_s, show J_X7_otherwise (nI b) (nI q) 0 σ1 = some (0, σ2) from t1, bd2_s, if_pos rfl, show J_X7_otherwise (nI b) 0 1 σ2 = some (-4, σ3) from u1, bd2_s, if_pos rfl]
    exact v4 r hr
  · obtain ⟨σ4, s4, h4, v1, v2, v3, v4⟩ := ll_three (Ln := Ln) (xs := xs) y x n6 (N := N) 3 0 FU (D + 11) s h1 σ1 rfl (by rw [FU_eq]; omega) (by omega) r2 (l.fc r4) hb
    refine ⟨σ4, s4, h4, v1, by rw [v2]; exact r3, r4.tr v3, fun r hr => ?_⟩
    unfold J_L_law_b134
    rw [r1, bd2_s, if_neg (by decide), g_c10 r2, bd1_s, if_neg (nne li_0 (by omega) (by omega) e)]
    exact v4 r hr
theorem ll_loop (hL : Ln ≤ 260) : ∀ (k n j N D : Nat) (s : ST) (h : HT) (σ : Sg), n + k = 6 → k < j → D + 30 * k + 100 < 2 ^ 20 → NT ≤ N → GC D σ Λ s h → LX σ Λ → hq h = 0 → ∃ N' σ', J_L_law_b35 Ln xs j (nI n) N σ = some (1, N', σ') ∧ N ≤ N' ∧ N' ≤ N + 2 * k := by
  have n143 : NT = 143 := rfl
  intro k
  induction k with
  | zero =>
    intro n j N D s h σ hn hj hD hN g l hq0
    obtain ⟨j, rfl⟩ : ∃ i, j = i + 1 := ⟨j - 1, by omega⟩
    refine ⟨N, σ, ?_, Nat.le_refl _, by omega⟩
    rw [J_L_law_b35, if_pos (show (6 : Int32) ≤ nI n from by rw [li_6, nI_leI (by omega) (by omega)]; omega), la_agrees g l, bd1_s, if_neg (by decide), g_c11 g, bd1_s, hq0, if_pos (show nI 0 = 0 from rfl)]
  | succ k ih =>
    intro n j N D s h σ hn hj hD hN g l hq0
    obtain ⟨j, rfl⟩ : ∃ i, j = i + 1 := ⟨j - 1, by omega⟩
    have n8 := g.nb
    obtain ⟨x, hx⟩ := cell_ok (xs := xs) hL (k := 12 + n) (by omega)
    obtain ⟨b, b1, b2⟩ := low_ok x (n := lNb Λ) (by omega) (by omega)
    obtain ⟨w, w1, w2⟩ := and_nI (x >>> ((4 : Int32) &&& 31)) (m := 3) (by decide)
    obtain ⟨v, v1, v2⟩ := and_nI (x >>> ((6 : Int32) &&& 31)) (m := 1) (by decide)
    have w2' : ((x >>> ((4 : Int32) &&& 31)) &&& (3 : Int32)) = nI w := w2
    have v2' : ((x >>> ((6 : Int32) &&& 31)) &&& (1 : Int32)) = nI v := v2
    obtain ⟨σ1, h1, r1, r2, r3, r4, r5⟩ := la_drives g (by omega) b1 (show w < 4 by omega)
    obtain ⟨N1, σ2, t1, t2, t3, t4, t5⟩ := la_strays r2 (l.fc r5) (by omega) hN b1
    have l2 : LX σ2 Λ := (l.fc r5).fr (t5 141 (by decide) (by omega))
    have q1 : hq h1 = 0 := by rw [r3]; exact hq0
    have e12 : (12 : Int32) + nI n = nI (12 + n) := by rw [li_12, nI_add]
    -- the rest of it, from where rests begin
    have fin : ∀ (D' N2 : Nat) (h3 : HT) (σ3 : Sg), D' ≤ D + 10 → N1 ≤ N2 → N2 ≤ N1 + 1 → GC D' σ3 Λ s h3 → LX σ3 Λ → hq h3 = 0 → ∃ N' σ', J_L_law_b134 Ln xs (fun x4 x1000 σ => J_L_law_b35 Ln xs j x4 x1000 σ) (nI n) x (nI b) N2 σ3 = some (1, N', σ') ∧ N2 ≤ N' ∧ N' ≤ N + 2 * (k + 1) := by
      intro D' N2 h3 σ3 hD' hN1 hN2 g3 l3 q3
      obtain ⟨σ4, s4, h4, u1, u2, u3, u4⟩ := ll_134 (Ln := Ln) (xs := xs) g3 l3 (by omega) q3 (fun x4 x1000 σ => J_L_law_b35 Ln xs j x4 x1000 σ) x (show n < 6 by omega) b1 (N := N2)
      obtain ⟨N', σ', z1, z2, z3⟩ := ih (n + 1) j N2 (D' + 14) s4 h4 σ4 (by omega) (by omega) (by omega) (by omega) u1 (l3.fc u3) u2
      exact ⟨N', σ', u4 _ z1, z2, by omega⟩
    -- games, or not
    have gam : ∀ (D' N2 : Nat) (h3 : HT) (σ3 : Sg), D' ≤ D + 8 → N1 ≤ N2 → N2 ≤ N1 + 1 → GC D' σ3 Λ s h3 → LX σ3 Λ → hq h3 = 0 → ∃ N' σ', (if (rmI (nI n) (3 : Int32)) = (1 : Int32) then (bd2 (J_L_games σ3) fun r128 s128 => (if r128 = 0 then (some ((0 : Int32), N2, s128)) else (J_L_law_b134 Ln xs (fun x4 x1000 σ => J_L_law_b35 Ln xs j x4 x1000 σ) (nI n) x (nI b) N2 s128))) else (J_L_law_b134 Ln xs (fun x4 x1000 σ => J_L_law_b35 Ln xs j x4 x1000 σ) (nI n) x (nI b) N2 σ3)) = some (1, N', σ') ∧ N2 ≤ N' ∧ N' ≤ N + 2 * (k + 1) := by
      intro D' N2 h3 σ3 hD' hN1 hN2 g3 l3 q3
      by_cases c : (rmI (nI n) (3 : Int32)) = (1 : Int32)
      · obtain ⟨σ4, h4, u1, u2, u3, u4, u5⟩ := la_games g3 (by omega)
        obtain ⟨N', σ', z1, z2⟩ := fin (D' + 2) N2 h4 σ4 (by omega) hN1 hN2 u2 (l3.fc u5) (by rw [u3]; exact q3)
        refine ⟨N', σ', ?_, z2⟩
        rw [if_pos c, u1, bd2_s, if_neg (by decide)]
        exact z1
      · obtain ⟨N', σ', z1, z2⟩ := fin D' N2 h3 σ3 (by omega) hN1 hN2 g3 l3 q3
        refine ⟨N', σ', ?_, z2⟩
        rw [if_neg c]
        exact z1
    rw [J_L_law_b35, if_neg (show ¬ (6 : Int32) ≤ nI n from by rw [li_6, nI_leI (by omega) (by omega)]; omega), e12, hx σ, bd1_s, l.2.2.1, b2 σ, bd1_s, la_agrees g l, bd1_s, if_neg (by decide), w2', r1, bd2_s, if_neg (by decide)]
    by_cases c0 : (rmI (nI n) (3 : Int32)) = 0
    · obtain ⟨N2, σ3, h3, u1, u2, u3, u4, u5, u6⟩ := la_summers t4 l2 (by omega) q1 (show NT ≤ N1 by omega) v1
      obtain ⟨N', σ', z1, z2, z3⟩ := gam (D + 1 + 7) N2 h3 σ3 (by omega) u2 u3 u4 (l2.fr (u6 141 (by decide) (by omega))) u5
      refine ⟨N', σ', bd3_s t1 t2 ?_ (by omega), by omega, z3⟩
      rw [if_neg (by decide), if_pos c0, v2']
      refine bd3_s u1 u2 ?_ z2
      rw [if_neg (by decide)]
      exact z1
    · obtain ⟨N', σ', z1, z2, z3⟩ := gam (D + 1) N1 h1 σ2 (by omega) (Nat.le_refl _) (by omega) t4 l2 q1
      refine ⟨N', σ', bd3_s t1 t2 ?_ z2, by omega, z3⟩
      rw [if_neg (by decide), if_neg c0]
      exact z1
end LAW
