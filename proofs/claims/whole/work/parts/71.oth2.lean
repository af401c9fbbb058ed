/-! otherwise, in the model -/
section OTH2
variable {σ : Sg} {D : Nat} {Λ : LT} {s : ST} {n o : Nat} {P : Nat → ST} {T : Nat → Nat}
theorem PmP.wt {σ' : Sg} (hΛ : LOK Λ) (hn : n ≤ 8) (h : PmP σ Λ n P T) (f : Fs Wt σ σ') : PmP σ' Λ n P T :=
  h.fr hΛ hn f fun a j z w => by
    have w' : a = 157 ∨ (a = 141 ∧ j = 32) := w
    omega
theorem LM.wt {σ' : Sg} (h : LM σ Λ) (f : Fs Wt σ σ') : LM σ' Λ :=
  h.frs f fun a j z1 z2 z3 w => by
    have w' : a = 157 ∨ (a = 141 ∧ j = 32) := w
    omega
theorem jm_oth81 {b x : Nat} (hb : b < lNb Λ) (hx : x < 36) (hn : n ≤ 8) (hT : ∀ i, i < n → T i < 100) : ∀ (m i j : Nat) (s : ST) (σ : Sg), i + m = n → m < j → sD s + m < 2 ^ 28 → PmP σ Λ n P T → MS σ Λ s → ∃ σ', J_X8_isOtherwise_b81 j (nI b) (nI x) (nI i) σ = some (bI (decide (sP (othL Λ T m i s) b = x)), σ') ∧ Fs Wt σ σ' := by
  intro m
  induction m with
  | zero =>
    intro i j s σ hi hj hd hP h
    obtain ⟨j, rfl⟩ : ∃ i, j = i + 1 := ⟨j - 1, by omega⟩
    have p36 := SOK.p36 h.2.2.1 h.2.2.2 hb
    have h8 := h.nb8
    refine ⟨σ, ?_, Fs.rf⟩
    rw [J_X8_isOtherwise_b81, hP.1, if_pos ((nI_leI (by omega) (by omega)).mpr (by omega)), show (37 : Int32) + nI b = nI (37 + b) from by rw [li_37, nI_add], if_pos ((inb_nI (by omega)).mpr (by omega)), nI_clamp (n := 37 + b) (by omega), h.pl hb, othL]
    by_cases e : sP s b = x
    · rw [if_pos (by rw [e])]; simp [e, bI]
    · rw [if_neg (fun z => e ((nI_inj (by omega) (by omega)).mp z))]; simp [e, bI]
  | succ m ih =>
    intro i j s σ hi hj hd hP h
    obtain ⟨j, rfl⟩ : ∃ i, j = i + 1 := ⟨j - 1, by omega⟩
    have ti := hT i (by omega)
    have hΛ := h.2.2.1
    have i8 : inb (nI i) 8 = true := (inb_nI (by omega)).mpr (by omega)
    rw [J_X8_isOtherwise_b81, hP.1, if_neg (fun z => by have := (nI_leI (by omega) (by omega)).mp z; omega), if_pos i8, nI_clamp (n := i) (by omega), (hP.2 i (by omega)).2, othL, show nI i + (1 : Int32) = nI (i + 1) from by rw [li_1, nI_add]]
    have go : ∀ σ2 s2, MS σ2 Λ s2 → sD s2 = sD s + 1 → Fs Wt σ σ2 → ∃ σ', J_X8_isOtherwise_b81 j (nI b) (nI x) (nI (i + 1)) σ2 = some (bI (decide (sP (othL Λ T m (i + 1) s2) b = x)), σ') ∧ Fs Wt σ σ' := by
      intro σ2 s2 h2 d2 f2
      obtain ⟨σ3, r1, r2⟩ := ih (i + 1) j s2 σ2 (by omega) (by omega) (by rw [d2]; omega) (hP.wt hΛ hn f2) h2
      exact ⟨σ3, r1, f2.tr r2⟩
    by_cases e : T i = 99
    · rw [if_pos (neq li_99 e)]
      obtain ⟨σ1, r1, r2, r3⟩ := jm_pass99 h (by omega)
      have lv : livS Λ s (if lostI Λ s = 0 then T i else 99) = passS Λ s := by
        rw [e]
        split <;> rfl
      rw [r1, bd2_s, lv]
      exact go σ1 (passS Λ s) r2 passS_D r3
    · rw [if_neg (nne li_99 (by omega) (by omega) e), if_pos i8]
      by_cases el : lostI Λ s = 0
      · obtain ⟨σ1, σ2, r1, r2, r3, r4, r5⟩ := jm_told h (by omega) (d := T i) (by omega) el
        have q148 : σ1 148 i = nI (T i) := by rw [r4 148 i (fun z => by have := z.1; omega)]; exact (hP.2 i (by omega)).2
        rw [if_pos el, r1, bd2_s]
        cases cn : canN Λ s (T i)
        · rw [cn, if_neg (by decide)] at r2
          rw [if_pos (show bI false = 0 from rfl), r2, bd2_s]
          exact go σ2 _ r3 livS_D r5
        · rw [cn, if_pos rfl] at r2
          rw [if_neg (show ¬ bI true = 0 from by decide), if_pos i8, q148, r2, bd2_s]
          exact go σ2 _ r3 livS_D r5
      · obtain ⟨σ1, r1, r2, r3⟩ := jm_canDrive h (by omega) (d := T i) (by omega)
        obtain ⟨σ2, t1, t2, t3⟩ := jm_pass99 r2 (by omega)
        have cn : canN Λ s (T i) = false := by unfold canN; simp [el]
        rw [if_neg el, r1, bd2_s, cn, if_pos (show bI false = 0 from rfl), t1, bd2_s]
        exact go σ2 (passS Λ s) t2 passS_D ((r3.mono fun _ _ z => z.wt).tr t3)
theorem jm_othIs {b x c d : Nat} (g : PgP D Λ n o P T) (hD : D < 2 ^ 20) (hΛ : LOK Λ) (hL : LM σ Λ) (hP : PmP σ Λ n P T) (hc : c < n) (hd : d < 100) (hb : b < lNb Λ) (hx : x < 36) : ∃ σ', J_X8_isOtherwise (nI c) (nI d) (nI b) (nI x) σ = some (bI (othX Λ n P T b x c d), σ') ∧ Fs Wt σ σ' := by
  obtain ⟨g1, g2, g3⟩ := g
  have gc := g3 c hc
  have ec : n - (c + 1) = n - 1 - c := by omega
  obtain ⟨σ1, r1, r2, r3⟩ := jm_copyRow (A := 157) (B := 147) (o1 := 0) (o2 := 54 * c) (by decide) (by decide) hΛ (hP.2 c hc).1 (by decide) (show 54 * c + 54 ≤ 432 by omega) (by decide) (by omega)
  have f1 : Fs Wt σ σ1 := r3.mono fun a j z => Or.inl z.1
  have h : MS σ1 Λ (P c) := ⟨hL.wt f1, r2, hΛ, gc.1⟩
  have hP1 := hP.wt hΛ g1 f1
  have i8 : inb (nI c) 8 = true := (inb_nI (by omega)).mpr (by omega)
  have tc := gc.2.2.2
  have q := (hP1.2 c hc).2
  unfold J_X8_isOtherwise othX othF
  rw [show (54 : Int32) * nI c = nI (54 * c) from by rw [li_54, nI_mul], show J_X8_copies 157 0 147 (nI (54 * c)) 54 σ = _ from r1, bd2_s, if_pos i8, nI_clamp (by omega), q]
  have yes : (d = 99 ∨ drvN Λ (P c) (d / 10) (d % 10) ≠ 36) → ∀ σ2, MS σ2 Λ (P c) → PmP σ2 Λ n P T → Fs Wt σ σ2 → ∃ σ', (bd2 (J_X8_goesBy (nI d) σ2) fun _ s73 => J_X8_isOtherwise_b81 FU (nI b) (nI x) (nI c + (1 : Int32)) s73) = some (bI (decide (sP (othL Λ T (n - 1 - c) (c + 1) (livS Λ (P c) d)) b = x)), σ') ∧ Fs Wt σ σ' := by
    intro hc2 σ2 h2 hP2 f2
    obtain ⟨σ3, t1, t2, t3⟩ := jm_goesBy h2 (by omega) (by omega) hc2
    obtain ⟨σ4, x1, x2⟩ := jm_oth81 hb hx g1 (fun i hi => (g3 i hi).2.2.2) (n - 1 - c) (c + 1) FU (livS Λ (P c) d) σ3 (by omega) (by rw [FU_eq]; omega) (by rw [livS_D]; omega) (hP2.wt hΛ g1 t3) t2
    refine ⟨σ4, ?_, f2.tr (t3.tr x2)⟩
    rw [t1, bd2_s, show nI c + (1 : Int32) = nI (c + 1) from by rw [li_1, nI_add], x1]
  have can : d ≠ 99 → ∃ σ', (bd2 (J_X8_canDrive (nI d) σ1) fun r63 s63 => (if r63 = 0 then (some ((0 : Int32), s63)) else (bd2 (J_X8_goesBy (nI d) s63) fun _ s73 => (J_X8_isOtherwise_b81 FU (nI b) (nI x) (nI c + (1 : Int32)) s73)))) = some (bI (decide (drvN Λ (P c) (d / 10) (d % 10) ≠ 36) && decide (sP (othL Λ T (n - 1 - c) (c + 1) (livS Λ (P c) d)) b = x)), σ') ∧ Fs Wt σ σ' := by
    intro h9
    obtain ⟨σ2, t1, t2, t3⟩ := jm_canDrive h (by omega) (d := d) (by omega)
    have t3' : Fs Wt σ1 σ2 := t3.mono fun _ _ z => z.wt
    rw [t1, bd2_s]
    by_cases e : drvN Λ (P c) (d / 10) (d % 10) = 36
    · have cn : canN Λ (P c) d = false := by unfold canN; simp [e]
      refine ⟨σ2, ?_, f1.tr t3'⟩
      rw [cn, if_pos (show bI false = 0 from rfl)]
      simp [e, bI]
    · have cn : canN Λ (P c) d = true := by unfold canN; simp [e, gc.2.2.1]
      obtain ⟨σ3, x1, x2⟩ := yes (Or.inr e) σ2 t2 (hP1.wt hΛ g1 t3') (f1.tr t3')
      refine ⟨σ3, ?_, x2⟩
      rw [cn, if_neg (show ¬ bI true = 0 from by decide), x1]
      simp [e]
  unfold othOK
  generalize hw : T c = w at tc ⊢
  by_cases h1 : d = w
  · rw [if_pos (by rw [h1])]
    exact ⟨σ1, by simp [h1, bI], f1⟩
  · rw [if_neg (fun z => h1 ((nI_inj (by omega) (by omega)).mp z))]
    by_cases h2 : d = 99
    · rw [if_pos (neq li_99 h2)]
      obtain ⟨σ3, x1, x2⟩ := yes (Or.inl h2) σ1 h hP1 f1
      refine ⟨σ3, ?_, x2⟩
      rw [x1]
      have h5 : ¬ 99 = w := by omega
      simp [h2, h5]
    · rw [if_neg (nne li_99 (by omega) (by omega) h2), if_pos i8]
      by_cases h3 : w = 99
      · rw [if_pos (neq li_99 h3)]
        obtain ⟨σ3, x1, x2⟩ := can h2
        refine ⟨σ3, ?_, x2⟩
        rw [x1]
        simp [h1, h2, h3]
      · rw [if_neg (nne li_99 (by omega) (by omega) h3), if_pos i8, li_10, nI_div (by omega) (by omega), nI_div (by omega) (by omega)]
        by_cases h4 : d / 10 = w / 10
        · rw [if_pos (by rw [h4])]
          obtain ⟨σ3, x1, x2⟩ := can h2
          refine ⟨σ3, ?_, x2⟩
          rw [x1]
          simp [h1, h2, h3, h4]
        · rw [if_neg (fun z => h4 ((nI_inj (by omega) (by omega)).mp z))]
          exact ⟨σ1, by simp [h1, h2, h3, h4, bI], f1⟩
theorem othX4 {b x c d : Nat} (h1 : 4 ≤ d % 10) (h2 : d ≠ 99) : othX Λ n P T b x c d = false := by
  have e : drvN Λ (P c) (d / 10) (d % 10) = 36 := by
    unfold drvN
    rw [if_neg (by omega)]
  unfold othX othOK
  simp [e, h2]
theorem jm_oth49 {b x k : Nat} (y37 : Int32 → Int32 → Int32 → Int32 → Int32 → Int32 → Sg → Option (Int32 × Sg)) (w : Int32) (g : PgP D Λ n o P T) (hD : D < 2 ^ 20) (hΛ : LOK Λ) (hk : k < n) (hb : b < lNb Λ) (hx : x < lSq Λ) : ∀ (m d j : Nat) (a : Nat × Int32) (σ : Sg), d + m = 100 → m < j → a.1 + m < 2000 → LM σ Λ → PmP σ Λ n P T → ∃ σ', J_X8_otherwise_b49 y37 j (nI b) (nI x) w (nI a.1) a.2 (nI k) (nI d) σ = y37 (nI b) (nI x) w (nI (othA Λ n P T b x k m d a).1) (othA Λ n P T b x k m d a).2 (nI (k + 1)) σ' ∧ Fs Wt σ σ' ∧ (othA Λ n P T b x k m d a).1 ≤ a.1 + m := by
  have hn := g.1
  have h36 := hΛ.sq.2.1
  intro m
  induction m with
  | zero =>
    intro d j a σ hi hj ha hL hP
    obtain ⟨j, rfl⟩ : ∃ i, j = i + 1 := ⟨j - 1, by omega⟩
    refine ⟨σ, ?_, Fs.rf, Nat.le_refl _⟩
    rw [J_X8_otherwise_b49, if_pos (show (99 : Int32) < nI d from by rw [li_99, nI_ltI (by omega) (by omega)]; omega), show nI k + (1 : Int32) = nI (k + 1) from by rw [li_1, nI_add]]
    rfl
  | succ m ih =>
    intro d j a σ hi hj ha hL hP
    obtain ⟨j, rfl⟩ : ∃ i, j = i + 1 := ⟨j - 1, by omega⟩
    have a1 : nI d + (1 : Int32) = nI (d + 1) := by rw [li_1, nI_add]
    have e0 : nI n - (1 : Int32) - nI k = nI (n - 1 - k) := by rw [li_1, nI_subI (by omega), nI_subI (by omega)]
    rw [J_X8_otherwise_b49, if_neg (show ¬ (99 : Int32) < nI d from by rw [li_99, nI_ltI (by omega) (by omega)]; omega), othA, a1, li_10, rmI_nI (by omega) (by omega)]
    have b72 : ∃ σ', J_X8_otherwise_b72 y37 (fun x1 x2 x3 x4 x5 x6 x7 σ => J_X8_otherwise_b49 y37 j x1 x2 x3 x4 x5 x6 x7 σ) (nI b) (nI x) w (nI a.1) a.2 (nI k) (nI d) σ = y37 (nI b) (nI x) w (nI (othA Λ n P T b x k m (d + 1) (if othX Λ n P T b x (n - 1 - k) d = true then (a.1 + 1, if a.1 = 0 then nI (100 * k + d) else a.2) else a)).1) (othA Λ n P T b x k m (d + 1) (if othX Λ n P T b x (n - 1 - k) d = true then (a.1 + 1, if a.1 = 0 then nI (100 * k + d) else a.2) else a)).2 (nI (k + 1)) σ' ∧ Fs Wt σ σ' ∧ (othA Λ n P T b x k m (d + 1) (if othX Λ n P T b x (n - 1 - k) d = true then (a.1 + 1, if a.1 = 0 then nI (100 * k + d) else a.2) else a)).1 ≤ a.1 + (m + 1) := by
      obtain ⟨σ1, t1, t2⟩ := jm_othIs (b := b) (x := x) (c := n - 1 - k) (d := d) g hD hΛ hL hP (by omega) (by omega) hb (by omega)
      have hL1 := hL.wt t2
      have hP1 := hP.wt hΛ hn t2
      unfold J_X8_otherwise_b72
      rw [hP.1, e0, t1, bd2_s]
      cases ex : othX Λ n P T b x (n - 1 - k) d with
      | false =>
        rw [if_pos (show bI false = 0 from rfl), if_neg (show ¬ false = true by decide)]
        obtain ⟨σ2, r1, r2, r3⟩ := ih (d + 1) j a σ1 (by omega) (by omega) (by omega) hL1 hP1
        refine ⟨σ2, ?_, t2.tr r2, by omega⟩
        rw [a1]; exact r1
      | true =>
        rw [if_neg (show ¬ bI true = 0 from by decide), if_pos (show true = true from rfl), show nI a.1 + (1 : Int32) = nI (a.1 + 1) from by rw [li_1, nI_add]]
        by_cases e1 : a.1 = 0
        · rw [if_pos (neq li_0 e1), if_pos e1, show (100 : Int32) * nI k + nI d = nI (100 * k + d) from by rw [li_100, nI_mul, nI_add]]
          obtain ⟨σ2, r1, r2, r3⟩ := ih (d + 1) j (a.1 + 1, nI (100 * k + d)) σ1 (by omega) (by omega) (by show a.1 + 1 + m < 2000; omega) hL1 hP1
          refine ⟨σ2, ?_, t2.tr r2, Nat.le_trans r3 (by show a.1 + 1 + m ≤ a.1 + (m + 1); omega)⟩
          rw [a1]; exact r1
        · rw [if_neg (nne li_0 (by omega) (by omega) e1), if_neg e1]
          obtain ⟨σ2, r1, r2, r3⟩ := ih (d + 1) j (a.1 + 1, a.2) σ1 (by omega) (by omega) (by show a.1 + 1 + m < 2000; omega) hL1 hP1
          refine ⟨σ2, ?_, t2.tr r2, Nat.le_trans r3 (by show a.1 + 1 + m ≤ a.1 + (m + 1); omega)⟩
          rw [a1]; exact r1
    by_cases h4 : d % 10 < 4
    · rw [if_pos (show nI (d % 10) < (4 : Int32) from by rw [li_4, nI_ltI (by omega) (by omega)]; exact h4)]
      exact b72
    · rw [if_neg (show ¬ nI (d % 10) < (4 : Int32) from by rw [li_4, nI_ltI (by omega) (by omega)]; exact h4)]
      by_cases h9 : d = 99
      · rw [if_pos (neq li_99 h9)]
        exact b72
      · rw [if_neg (nne li_99 (by omega) (by omega) h9), if_neg (by rw [othX4 (by omega) h9]; decide)]
        obtain ⟨σ2, r1, r2, r3⟩ := ih (d + 1) j a σ (by omega) (by omega) (by omega) hL hP
        exact ⟨σ2, r1, r2, by omega⟩
theorem jm_oth37 {b x : Nat} (w : Int32) (g : PgP D Λ n o P T) (hD : D < 2 ^ 20) (hΛ : LOK Λ) (hb : b < lNb Λ) (hx : x < lSq Λ) : ∀ (m k j : Nat) (a : Nat × Int32) (σ : Sg), k + m = n → m < j → a.1 ≤ 100 * k → LM σ Λ → PmP σ Λ n P T → ∃ σ', J_X8_otherwise_b37 j (nI b) (nI x) w (nI a.1) a.2 (nI k) σ = some (if w = 0 then nI (othB Λ n P T b x m k a).1 else (othB Λ n P T b x m k a).2, σ') ∧ Fs Wt σ σ' := by
  have hn := g.1
  intro m
  induction m with
  | zero =>
    intro k j a σ hi hj ha hL hP
    obtain ⟨j, rfl⟩ : ∃ i, j = i + 1 := ⟨j - 1, by omega⟩
    refine ⟨σ, ?_, Fs.rf⟩
    rw [J_X8_otherwise_b37, hP.1, if_pos ((nI_leI (by omega) (by omega)).mpr (by omega))]
    by_cases e : w = 0
    · rw [if_pos e, if_pos e]; rfl
    · rw [if_neg e, if_neg e]; rfl
  | succ m ih =>
    intro k j a σ hi hj ha hL hP
    obtain ⟨j, rfl⟩ : ∃ i, j = i + 1 := ⟨j - 1, by omega⟩
    rw [J_X8_otherwise_b37, hP.1, if_neg (fun z => by have := (nI_leI (by omega) (by omega)).mp z; omega)]
    obtain ⟨σ1, r1, r2, r3⟩ := jm_oth49 (fun x1 x2 x3 x4 x5 x6 σ => J_X8_otherwise_b37 j x1 x2 x3 x4 x5 x6 σ) w g hD hΛ (show k < n by omega) hb hx 100 0 FU a σ (by omega) (by rw [FU_eq]; omega) (by omega) hL hP
    obtain ⟨σ2, t1, t2⟩ := ih (k + 1) j (othA Λ n P T b x k 100 0 a) σ1 (by omega) (by omega) (by omega) (hL.wt r2) (hP.wt hΛ hn r2)
    refine ⟨σ2, ?_, r2.tr t2⟩
    rw [show J_X8_otherwise_b49 (fun x1 x2 x3 x4 x5 x6 σ => J_X8_otherwise_b37 j x1 x2 x3 x4 x5 x6 σ) FU (nI b) (nI x) w (nI a.1) a.2 (nI k) 0 σ = _ from r1]
    exact t1
theorem cl_otherwise (h : Psi D σ) (hD : D < 2 ^ 20) (a b c : Int32) : ∃ r σ1 σ2, J_X7_otherwise a b c σ = some (r, σ1) ∧ J_X8_otherwise a b c σ1 = some (r, σ2) ∧ Psi D σ2 := by
  have h0 := h
  obtain ⟨Λ, s, n, o, P, T, q, K, t, h1, h2, h3, -, -⟩ := h
  have hΛ := h1.2.2
  have n8 := hΛ.2.2.1
  have q1 := hΛ.sq
  rcases i_cases a (show lNb Λ < 2 ^ 31 by omega) with ⟨x, hx, rfl⟩ | ha
  · have c0 : J_X1_hasBeast 1 (nI x) σ = some 1 := jl_hasBeast h1.1.2.2.1 n8.2 hx
    rcases i_cases b (show lSq Λ < 2 ^ 31 by omega) with ⟨y, hy, rfl⟩ | hb
    · rcases i_cases c (show 2 < 2 ^ 31 by decide) with ⟨w, hw, rfl⟩ | hc
      · have ww := what1 (show w ≤ 1 by omega)
        obtain ⟨σ1, r1, r2⟩ := jc_oth43 (nI w) h3.g hD hΛ hx hy n 0 FU (0, -4) σ (by omega) (by have := h3.1; rw [FU_eq]; omega) (Nat.le_refl _) ⟨fun _ => rfl, fun _ => rfl⟩ h1.1 h3.c
        have f1 := spare_wk r2
        have g1 := h1.fr f1
        have g3 := h3.fr hΛ f1
        obtain ⟨σ2, t1, t2⟩ := jm_oth37 (nI w) h3.g hD hΛ hx hy n 0 FU (0, -4) σ1 (by omega) (by have := h3.1; rw [FU_eq]; omega) (Nat.le_refl _) g1.2.1 g3.m
        refine ⟨if nI w = 0 then nI (othB Λ n P T x y n 0 (0, -4)).1 else (othB Λ n P T x y n 0 (0, -4)).2, σ1, σ2, ?_, ?_, h0.fr (f1.tr t2.wk)⟩
        · unfold J_X7_otherwise
          rw [c0, bd1_s, if_neg n10, jl_hasSquare h1.1.1 q1.2.1 hy, bd1_s, if_neg n10, if_neg ww.1, if_pos ww.2]
          exact r1
        · unfold J_X8_otherwise
          rw [jm_isBeast g1.2.1.2.2.1 n8.2 hx, bd1_s, if_neg n10, jm_isSquare g1.2.1.1 q1.2.1 hy, bd1_s, if_neg n10, in01 (by omega), bd1_s, if_neg n10]
          exact t1
      · refine ⟨-1, σ, σ, ?_, ?_, h0⟩
        · unfold J_X7_otherwise
          rw [c0, bd1_s, if_neg n10, jl_hasSquare h1.1.1 q1.2.1 hy, bd1_s, if_neg n10]
          rcases hc with z | z
          · rw [if_pos z]
          · rw [if_neg (what0 z).1, if_neg (what0 z).2]
        · unfold J_X8_otherwise
          rw [jm_isBeast h1.2.1.2.2.1 n8.2 hx, bd1_s, if_neg n10, jm_isSquare h1.2.1.1 q1.2.1 hy, bd1_s, if_neg n10, in01_0 hc, bd1_s, if_pos z00]
    · refine ⟨-1, σ, σ, ?_, ?_, h0⟩
      · unfold J_X7_otherwise
        rw [c0, bd1_s, if_neg n10, jl_hasSquare0 h1.1.1 hb, bd1_s, if_pos z00]
      · unfold J_X8_otherwise
        rw [jm_isBeast h1.2.1.2.2.1 n8.2 hx, bd1_s, if_neg n10, jm_isSquare0 h1.2.1.1 q1.1 q1.2.1 hb, bd1_s, if_pos z00]
  · refine ⟨-1, σ, σ, ?_, ?_, h0⟩
    · unfold J_X7_otherwise
      rw [jl_hasBeast0 h1.1.2.2.1 ha, bd1_s, if_pos z00]
    · unfold J_X8_otherwise
      rw [jm_isBeast0 h1.2.1.2.2.1 n8.1 n8.2 ha, bd1_s, if_pos z00]
end OTH2
