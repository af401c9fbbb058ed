/-! call: otherwise -/
def othOK (Λ : LT) (P : Nat → ST) (T : Nat → Nat) (c d : Nat) : Bool := decide (d ≠ T c) && (decide (d = 99) || ((decide (T c = 99) || decide (d / 10 = T c / 10)) && decide (drvN Λ (P c) (d / 10) (d % 10) ≠ 36)))
def othL (Λ : LT) (T : Nat → Nat) : Nat → Nat → ST → ST
  | 0, _, s => s
  | m + 1, i, s => othL Λ T m (i + 1) (livS Λ s (if lostI Λ s = 0 then T i else 99))
def othF (Λ : LT) (n : Nat) (P : Nat → ST) (T : Nat → Nat) (c d : Nat) : ST := othL Λ T (n - 1 - c) (c + 1) (livS Λ (P c) d)
def othX (Λ : LT) (n : Nat) (P : Nat → ST) (T : Nat → Nat) (b x c d : Nat) : Bool := othOK Λ P T c d && decide (sP (othF Λ n P T c d) b = x)
def othA (Λ : LT) (n : Nat) (P : Nat → ST) (T : Nat → Nat) (b x k : Nat) : Nat → Nat → Nat × Int32 → Nat × Int32
  | 0, _, a => a
  | m + 1, d, a => othA Λ n P T b x k m (d + 1) (if othX Λ n P T b x (n - 1 - k) d = true then (a.1 + 1, if a.1 = 0 then nI (100 * k + d) else a.2) else a)
def othB (Λ : LT) (n : Nat) (P : Nat → ST) (T : Nat → Nat) (b x : Nat) : Nat → Nat → Nat × Int32 → Nat × Int32
  | 0, _, a => a
  | m + 1, k, a => othB Λ n P T b x m (k + 1) (othA Λ n P T b x k 100 0 a)
section OTH
variable {σ : Sg} {D : Nat} {Λ : LT} {s : ST} {n o : Nat} {P : Nat → ST} {T : Nat → Nat}
theorem lnd26 {w : Nat} (h : w < 8) : lnd (pm 26 w) = 1 := by
  have := pm26 h
  unfold lnd
  rw [if_neg (by omega)]
theorem PcP.f19 {σ' : Sg} (h : PcP σ Λ n o P T) (f : Fr (fun a => 19 ≤ a ∧ a ≤ 23) σ σ') : PcP σ' Λ n o P T :=
  h.fr (f.fs (Q := fun a _ => 19 ≤ a ∧ a ≤ 23) fun a j z => z) fun a j z1 z2 w => by omega
theorem LC.f19 {σ' : Sg} (h : LC σ 1 Λ) (f : Fr (fun a => 19 ≤ a ∧ a ≤ 23) σ σ') : LC σ' 1 Λ :=
  LC.fr h (f 1 (by omega)) (f 2 (by omega)) (f 3 (by omega))
theorem jc_oth118 (ho : o < 8) (hn : n ≤ 8) (hT : ∀ i, i < n → T i < 100) : ∀ (m i j : Nat) (s : ST) (σ : Sg), i + m = n → m < j → sD s + m < 2 ^ 28 → PcP σ Λ n o P T → CC σ 19 Λ s → ∃ σ', J_X3_otherwiseIs_b118 j 19 (nI i) σ = some (1, σ') ∧ CC σ' 19 Λ (othL Λ T m i s) ∧ Fr (fun a => 19 ≤ a ∧ a ≤ 23) σ σ' := by
  intro m
  induction m with
  | zero =>
    intro i j s σ hi hj hd hP h
    obtain ⟨j, rfl⟩ : ∃ i, j = i + 1 := ⟨j - 1, by omega⟩
    refine ⟨σ, ?_, h, Fr.rf⟩
    rw [J_X3_otherwiseIs_b118, hP.1, if_pos ((nI_leI (by omega) (by omega)).mpr (by omega))]
  | succ m ih =>
    intro i j s σ hi hj hd hP h
    obtain ⟨j, rfl⟩ : ∃ i, j = i + 1 := ⟨j - 1, by omega⟩
    have hm : (o + i) % 8 < 8 := Nat.mod_lt _ (by decide)
    have ti := hT i (by omega)
    rw [J_X3_otherwiseIs_b118, hP.1, if_neg (fun z => by have := (nI_leI (by omega) (by omega)).mp z; omega), jc_lost h, bd1_s, othL, show nI i + (1 : Int32) = nI (i + 1) from by rw [li_1, nI_add]]
    have go : ∀ d, d < 100 → ∃ σ', (bd2 (J_X2_live 19 (nI d) σ) fun _ s151 => J_X3_otherwiseIs_b118 j 19 (nI (i + 1)) s151) = some (1, σ') ∧ CC σ' 19 Λ (othL Λ T m (i + 1) (livS Λ s d)) ∧ Fr (fun a => 19 ≤ a ∧ a ≤ 23) σ σ' := by
      intro d hd2
      obtain ⟨σ1, r1, r2, r3⟩ := jc_live h (by decide) (by omega) (d := d) (by omega)
      have f1 : Fr (fun a => 19 ≤ a ∧ a ≤ 23) σ σ1 := r3.mono fun a z => z
      obtain ⟨σ2, t1, t2, t3⟩ := ih (i + 1) j (livS Λ s d) σ1 (by omega) (by omega) (by rw [livS_D]; omega) (hP.f19 f1) r2
      refine ⟨σ2, ?_, t2, f1.tr t3⟩
      rw [r1, bd2_s, t1]
    by_cases e : lostI Λ s = 0
    · rw [if_pos e, if_pos e, j3_slot hP.2.1 ho (by omega), bd1_s, if_pos ((inb_nI (by omega)).mpr hm), nI_clamp (by omega), (hP.2.2 i (by omega)).2]
      exact go (T i) ti
    · rw [if_neg e, if_neg e]
      exact go 99 (by decide)
theorem jc_othIs (g : PgP D Λ n o P T) (hD : D < 2 ^ 20) (hΛ : LOK Λ) (hL : LC σ 1 Λ) (hP : PcP σ Λ n o P T) {k d : Nat} (hk : k < n) (hd : d < 100) : (othOK Λ P T (n - 1 - k) d = false → J_X3_otherwiseIs (nI k) (nI d) 19 σ = some (0, σ)) ∧ (othOK Λ P T (n - 1 - k) d = true → ∃ σ', J_X3_otherwiseIs (nI k) (nI d) 19 σ = some (1, σ') ∧ CC σ' 19 Λ (othF Λ n P T (n - 1 - k) d) ∧ Fr (fun a => 19 ≤ a ∧ a ≤ 23) σ σ') := by
  obtain ⟨g1, g2, g3⟩ := g
  have hm : (o + (n - 1 - k)) % 8 < 8 := Nat.mod_lt _ (by decide)
  have hc : n - 1 - k < n := by omega
  have gc := g3 _ hc
  have pc := hP.2.2 _ hc
  have p26 := pm26 hm
  have hb : CC σ (pm 26 ((o + (n - 1 - k)) % 8)) Λ (P (n - 1 - k)) := ⟨by rw [lnd26 hm]; exact hL, pc.1, hΛ, gc.1⟩
  have e0 : nI n - (1 : Int32) - nI k = nI (n - 1 - k) := by rw [li_1, nI_subI (by omega), nI_subI (by omega)]
  have ec : n - (n - 1 - k + 1) = n - 1 - (n - 1 - k) := by omega
  have e1 : nI (n - 1 - k) + (1 : Int32) = nI (n - 1 - k + 1) := by rw [li_1, nI_add]
  unfold J_X3_otherwiseIs othF
  rw [hP.1, e0, if_neg (nI_nlt0 (by omega)), if_pos (nI_ge0 (by omega)), j3_slot hP.2.1 g2 (by omega), bd1_s, if_pos ((inb_nI (by omega)).mpr hm), nI_clamp (n := (o + (n - 1 - k)) % 8) (by omega), pc.2]
  generalize n - 1 - k = c at hm hc gc pc p26 hb ec e1 ⊢
  have yes : ∃ σ', (bd2 (J_X2_copyFrom 19 (pm 26 ((o + c) % 8)) σ) fun _ s104 => (bd2 (J_X2_live 19 (nI d) s104) fun _ s109 => J_X3_otherwiseIs_b118 FU 19 (nI c + (1 : Int32)) s109)) = some (1, σ') ∧ CC σ' 19 Λ (othL Λ T (n - 1 - c) (c + 1) (livS Λ (P c) d)) ∧ Fr (fun a => 19 ≤ a ∧ a ≤ 23) σ σ' := by
    obtain ⟨σ1, r1, r2, r3⟩ := jc_copy (c := 19) (d := pm 26 ((o + c) % 8)) pc.1 (by omega)
    have f1 : Fr (fun a => 19 ≤ a ∧ a ≤ 23) σ σ1 := r3.mono fun a z => z
    obtain ⟨σ2, t1, t2, t3⟩ := jc_live (c := 19) ⟨hL.f19 f1, r2, hΛ, gc.1⟩ (by decide) (by omega) (d := d) (by omega)
    have f2 : Fr (fun a => 19 ≤ a ∧ a ≤ 23) σ σ2 := f1.tr (t3.mono fun a z => z)
    obtain ⟨σ3, x1, x2, x3⟩ := jc_oth118 g2 g1 (fun i hi => (g3 i hi).2.2.2) (n - 1 - c) (c + 1) FU (livS Λ (P c) d) σ2 (by omega) (by rw [FU_eq]; omega) (by rw [livS_D]; omega) (hP.f19 f2) t2
    refine ⟨σ3, ?_, x2, f2.tr x3⟩
    rw [r1, bd2_s, t1, bd2_s, e1, x1]
  have b67 : (d ≠ 99 → drvN Λ (P c) (d / 10) (d % 10) = 36 → J_X3_otherwiseIs_b67 (nI d) 19 (nI c) σ = some (0, σ)) ∧ ((d = 99 ∨ drvN Λ (P c) (d / 10) (d % 10) ≠ 36) → ∃ σ', J_X3_otherwiseIs_b67 (nI d) 19 (nI c) σ = some (1, σ') ∧ CC σ' 19 Λ (othL Λ T (n - 1 - c) (c + 1) (livS Λ (P c) d)) ∧ Fr (fun a => 19 ≤ a ∧ a ≤ 23) σ σ') := by
    have dl := drvN_le hΛ gc.1 (b := d / 10) (way := d % 10)
    unfold J_X3_otherwiseIs_b67
    rw [j3_before hP.2.1 g2 (by omega), bd1_s]
    refine ⟨fun h1 h2 => ?_, fun h1 => ?_⟩
    · rw [if_neg (nne li_99 (by omega) (by omega) h1), li_10, nI_div (by omega) (by omega), rmI_nI (by omega) (by omega), jc_driven hb (by omega) (by omega) (by omega), bd1_s, if_pos ((plI_lt _ dl).mpr h2)]
    · by_cases h2 : d = 99
      · rw [if_pos (neq li_99 h2)]; exact yes
      · have h3 : drvN Λ (P c) (d / 10) (d % 10) ≠ 36 := by rcases h1 with z | z; exact absurd z h2; exact z
        rw [if_neg (nne li_99 (by omega) (by omega) h2), li_10, nI_div (by omega) (by omega), rmI_nI (by omega) (by omega), jc_driven hb (by omega) (by omega) (by omega), bd1_s, if_neg (fun z => h3 ((plI_lt _ dl).mp z))]
        exact yes
  have tc := gc.2.2.2
  generalize hw : T c = w at tc ⊢
  unfold othOK
  rw [hw]
  by_cases h1 : d = w
  · rw [if_pos (by rw [h1])]
    exact ⟨fun _ => rfl, fun z => by simp [h1] at z⟩
  · rw [if_neg (fun z => h1 ((nI_inj (by omega) (by omega)).mp z))]
    by_cases h2 : d = 99
    · rw [if_pos (neq li_99 h2)]
      exact ⟨fun z => by simp [h1, h2] at z; omega, fun _ => b67.2 (Or.inl h2)⟩
    · rw [if_neg (nne li_99 (by omega) (by omega) h2)]
      have go : (decide (w = 99) || decide (d / 10 = w / 10)) = true → (((decide (d ≠ w) && (decide (d = 99) || ((decide (w = 99) || decide (d / 10 = w / 10)) && decide (drvN Λ (P c) (d / 10) (d % 10) ≠ 36)))) = false → J_X3_otherwiseIs_b67 (nI d) 19 (nI c) σ = some (0, σ)) ∧ ((decide (d ≠ w) && (decide (d = 99) || ((decide (w = 99) || decide (d / 10 = w / 10)) && decide (drvN Λ (P c) (d / 10) (d % 10) ≠ 36)))) = true → ∃ σ', J_X3_otherwiseIs_b67 (nI d) 19 (nI c) σ = some (1, σ') ∧ CC σ' 19 Λ (othL Λ T (n - 1 - c) (c + 1) (livS Λ (P c) d)) ∧ Fr (fun a => 19 ≤ a ∧ a ≤ 23) σ σ')) := by
        intro h3
        rw [h3]
        refine ⟨fun z => b67.1 h2 ?_, fun z => b67.2 (Or.inr ?_)⟩
        · simp [h1, h2] at z; exact z
        · simp [h1, h2] at z; exact z
      by_cases h3 : w = 99
      · rw [if_pos (neq li_99 h3)]
        exact go (by simp [h3])
      · rw [if_neg (nne li_99 (by omega) (by omega) h3), li_10, nI_div (by omega) (by omega), nI_div (by omega) (by omega)]
        by_cases h4 : d / 10 = w / 10
        · rw [if_pos (by rw [h4])]
          exact go (by simp [h4])
        · rw [if_neg (fun z => h4 ((nI_inj (by omega) (by omega)).mp z))]
          exact ⟨fun _ => rfl, fun z => by simp [h1, h2, h3, h4] at z⟩
theorem jc_oth58 {b x k : Nat} (y43 : Int32 → Int32 → Int32 → Int32 → Int32 → Int32 → Sg → Option (Int32 × Sg)) (w : Int32) (g : PgP D Λ n o P T) (hD : D < 2 ^ 20) (hΛ : LOK Λ) (hk : k < n) (hb : b < lNb Λ) (hx : x < lSq Λ) : ∀ (m d j : Nat) (a : Nat × Int32) (σ : Sg), d + m = 100 → m < j → a.1 + m < 2000 → (a.2 = -4 ↔ a.1 = 0) → LC σ 1 Λ → PcP σ Λ n o P T → ∃ σ', J_X7_otherwise_b58 y43 j (nI b) (nI x) w (nI a.1) a.2 (nI k) (nI d) σ = y43 (nI b) (nI x) w (nI (othA Λ n P T b x k m d a).1) (othA Λ n P T b x k m d a).2 (nI (k + 1)) σ' ∧ Fr (fun a => 19 ≤ a ∧ a ≤ 23) σ σ' ∧ ((othA Λ n P T b x k m d a).2 = -4 ↔ (othA Λ n P T b x k m d a).1 = 0) ∧ (othA Λ n P T b x k m d a).1 ≤ a.1 + m := by
  have hn := g.1
  have h36 := hΛ.sq.2.1
  intro m
  induction m with
  | zero =>
    intro d j a σ hi hj ha hi2 hL hP
    obtain ⟨j, rfl⟩ : ∃ i, j = i + 1 := ⟨j - 1, by omega⟩
    refine ⟨σ, ?_, Fr.rf, hi2, Nat.le_refl _⟩
    rw [J_X7_otherwise_b58, if_pos (show (99 : Int32) < nI d from by rw [li_99, nI_ltI (by omega) (by omega)]; omega), show nI k + (1 : Int32) = nI (k + 1) from by rw [li_1, nI_add]]
    rfl
  | succ m ih =>
    intro d j a σ hi hj ha hi2 hL hP
    obtain ⟨j, rfl⟩ : ∃ i, j = i + 1 := ⟨j - 1, by omega⟩
    obtain ⟨w0, w1⟩ := jc_othIs g hD hΛ hL hP hk (show d < 100 by omega)
    have a1 : nI d + (1 : Int32) = nI (d + 1) := by rw [li_1, nI_add]
    rw [J_X7_otherwise_b58, if_neg (show ¬ (99 : Int32) < nI d from by rw [li_99, nI_ltI (by omega) (by omega)]; omega), othA, a1]
    cases eo : othOK Λ P T (n - 1 - k) d with
    | false =>
      have ex : othX Λ n P T b x (n - 1 - k) d = false := by unfold othX; rw [eo]; rfl
      rw [w0 eo, bd2_s, if_pos z00, if_neg (by rw [ex]; decide)]
      obtain ⟨σ1, r1, r2, r3, r4⟩ := ih (d + 1) j a σ (by omega) (by omega) (by omega) hi2 hL hP
      exact ⟨σ1, r1, r2, r3, by omega⟩
    | true =>
      obtain ⟨σ1, t1, t2, t3⟩ := w1 eo
      have p36 := SOK.p36 hΛ t2.2.2.2 hb
      rw [t1, bd2_s, if_neg n10, jc_placeOf t2 hb, bd1_s]
      by_cases e : sP (othF Λ n P T (n - 1 - k) d) b = x
      · have ex : othX Λ n P T b x (n - 1 - k) d = true := by unfold othX; rw [eo]; simp [e]
        rw [if_pos ((plI_eq p36 (by omega)).mpr e), if_pos ex, show nI a.1 + (1 : Int32) = nI (a.1 + 1) from by rw [li_1, nI_add]]
        by_cases e0 : a.1 = 0
        · rw [if_pos (hi2.mpr e0), if_pos e0, show (100 : Int32) * nI k + nI d = nI (100 * k + d) from by rw [li_100, nI_mul, nI_add]]
          obtain ⟨σ2, r1, r2, r3, r4⟩ := ih (d + 1) j (a.1 + 1, nI (100 * k + d)) σ1 (by omega) (by omega) (by show a.1 + 1 + m < 2000; omega) ⟨fun z => absurd z (nI_nem4 (by omega)), fun z => absurd z (Nat.succ_ne_zero _)⟩ (hL.f19 t3) (hP.f19 t3)
          exact ⟨σ2, r1, t3.tr r2, r3, Nat.le_trans r4 (by show a.1 + 1 + m ≤ a.1 + (m + 1); omega)⟩
        · rw [if_neg (fun z => e0 (hi2.mp z)), if_neg e0]
          obtain ⟨σ2, r1, r2, r3, r4⟩ := ih (d + 1) j (a.1 + 1, a.2) σ1 (by omega) (by omega) (by show a.1 + 1 + m < 2000; omega) ⟨fun z => absurd (hi2.mp z) e0, fun z => absurd z (Nat.succ_ne_zero _)⟩ (hL.f19 t3) (hP.f19 t3)
          exact ⟨σ2, r1, t3.tr r2, r3, Nat.le_trans r4 (by show a.1 + 1 + m ≤ a.1 + (m + 1); omega)⟩
      · have ex : othX Λ n P T b x (n - 1 - k) d = false := by unfold othX; rw [eo]; simp [e]
        rw [if_neg (fun z => e ((plI_eq p36 (by omega)).mp z)), if_neg (by rw [ex]; decide)]
        obtain ⟨σ2, r1, r2, r3, r4⟩ := ih (d + 1) j a σ1 (by omega) (by omega) (by omega) hi2 (hL.f19 t3) (hP.f19 t3)
        exact ⟨σ2, r1, t3.tr r2, r3, by omega⟩
theorem jc_oth43 {b x : Nat} (w : Int32) (g : PgP D Λ n o P T) (hD : D < 2 ^ 20) (hΛ : LOK Λ) (hb : b < lNb Λ) (hx : x < lSq Λ) : ∀ (m k j : Nat) (a : Nat × Int32) (σ : Sg), k + m = n → m < j → a.1 ≤ 100 * k → (a.2 = -4 ↔ a.1 = 0) → LC σ 1 Λ → PcP σ Λ n o P T → ∃ σ', J_X7_otherwise_b43 j (nI b) (nI x) w (nI a.1) a.2 (nI k) σ = some (if w = 0 then nI (othB Λ n P T b x m k a).1 else (othB Λ n P T b x m k a).2, σ') ∧ Fr (fun a => 19 ≤ a ∧ a ≤ 23) σ σ' := by
  have hn := g.1
  intro m
  induction m with
  | zero =>
    intro k j a σ hi hj ha hi2 hL hP
    obtain ⟨j, rfl⟩ : ∃ i, j = i + 1 := ⟨j - 1, by omega⟩
    refine ⟨σ, ?_, Fr.rf⟩
    rw [J_X7_otherwise_b43, hP.1, if_pos ((nI_leI (by omega) (by omega)).mpr (by omega))]
    by_cases e : w = 0
    · rw [if_pos e, if_pos e]; rfl
    · rw [if_neg e, if_neg e]; rfl
  | succ m ih =>
    intro k j a σ hi hj ha hi2 hL hP
    obtain ⟨j, rfl⟩ : ∃ i, j = i + 1 := ⟨j - 1, by omega⟩
    rw [J_X7_otherwise_b43, hP.1, if_neg (fun z => by have := (nI_leI (by omega) (by omega)).mp z; omega)]
    obtain ⟨σ1, r1, r2, r3, r4⟩ := jc_oth58 (fun x1 x2 x3 x4 x5 x6 σ => J_X7_otherwise_b43 j x1 x2 x3 x4 x5 x6 σ) w g hD hΛ (show k < n by omega) hb hx 100 0 FU a σ (by omega) (by rw [FU_eq]; omega) (by omega) hi2 hL hP
    obtain ⟨σ2, t1, t2⟩ := ih (k + 1) j (othA Λ n P T b x k 100 0 a) σ1 (by omega) (by omega) (by omega) r3 (hL.f19 r2) (hP.f19 r2)
    refine ⟨σ2, ?_, r2.tr t2⟩
    rw [show J_X7_otherwise_b58 (fun x1 x2 x3 x4 x5 x6 σ => J_X7_otherwise_b43 j x1 x2 x3 x4 x5 x6 σ) FU (nI b) (nI x) w (nI a.1) a.2 (nI k) 0 σ = _ from r1]
    exact t1
end OTH
