/-! summers: what summer tells can be done, a ram is on the well then, none of its own is lost -/
theorem smL_some {Λ : LT} {v : Nat} {rec : ST → Option (List Nat)} {s : ST} : ∀ (k d : Nat) (r : List Nat), smL Λ v rec s k d = some r → ∃ e r', d ≤ e ∧ e < d + k ∧ (e = 99 ∨ drvN Λ s (e / 10) (e % 10) ≠ 36) ∧ staN Λ (livS Λ s e) v = staN Λ s v ∧ rec (livS Λ s e) = some r' ∧ r = e :: r' := by
  intro k
  induction k with
  | zero => intro d r h; cases h
  | succ k ih =>
    intro d r h
    unfold smL at h
    have up : smL Λ v rec s k (d + 1) = some r → ∃ e r', d ≤ e ∧ e < d + (k + 1) ∧ (e = 99 ∨ drvN Λ s (e / 10) (e % 10) ≠ 36) ∧ staN Λ (livS Λ s e) v = staN Λ s v ∧ rec (livS Λ s e) = some r' ∧ r = e :: r' := by
      intro h
      obtain ⟨e, r', h1, h2, h3⟩ := ih (d + 1) r h
      exact ⟨e, r', by omega, by omega, h3⟩
    by_cases c : (d = 99 ∨ drvN Λ s (d / 10) (d % 10) ≠ 36) ∧ staN Λ (livS Λ s d) v = staN Λ s v
    · rw [if_pos c] at h
      cases q : rec (livS Λ s d) with
      | none =>
        rw [q] at h
        exact up h
      | some r' =>
        rw [q] at h
        have h' : some (d :: r') = some r := h
        exact ⟨d, r', Nat.le_refl _, by omega, c.1, c.2, q, (Option.some.inj h').symm⟩
    · rw [if_neg c] at h
      exact up h
theorem smF_step {Λ : LT} {v m : Nat} {s : ST} {r : List Nat} (h : smF Λ v (m + 1) s = some r) : lostI Λ s = 0 ∧ ∃ d r', r = d :: r' ∧ d < 100 ∧ (d = 99 ∨ drvN Λ s (d / 10) (d % 10) ≠ 36) ∧ (sD s % 2 ≠ v → d = 99) ∧ staN Λ (livS Λ s d) v = staN Λ s v ∧ smF Λ v m (livS Λ s d) = some r' := by
  unfold smF at h
  by_cases l : lostI Λ s = 0
  · rw [if_pos l] at h
    refine ⟨l, ?_⟩
    by_cases c : sD s % 2 = v
    · rw [if_pos c] at h
      obtain ⟨d, r', h1, h2, h3, h4, h5, h6⟩ := smL_some _ _ _ h
      exact ⟨d, r', h6, by omega, h3, fun z => absurd c z, h4, h5⟩
    · rw [if_neg c] at h
      obtain ⟨d, r', h1, h2, h3, h4, h5, h6⟩ := smL_some _ _ _ h
      exact ⟨d, r', h6, by omega, h3, fun _ => by omega, h4, h5⟩
  · rw [if_neg l] at h
    cases h
theorem smF_end {Λ : LT} {v : Nat} {s : ST} {r : List Nat} (h : smF Λ v 0 s = some r) : watN Λ s v = true := by
  unfold smF at h
  by_cases c : watN Λ s v = true
  · exact c
  · rw [if_neg c] at h
    cases h
theorem dayF_some {Λ : LT} {v : Nat} {s : ST} : ∀ (k n : Nat) (p : Nat × List Nat), dayF Λ v s k n = some p → n ≤ p.1 ∧ p.1 < n + k ∧ smF Λ v p.1 s = some p.2
  | 0, n, p, h => by cases h
  | k + 1, n, p, h => by
    unfold dayF at h
    cases q : smF Λ v n s with
    | none =>
      rw [q] at h
      obtain ⟨h1, h2, h3⟩ := dayF_some k (n + 1) p h
      exact ⟨by omega, by omega, h3⟩
    | some r =>
      rw [q] at h
      have h' : some (n, r) = some p := h
      have e := Option.some.inj h'
      rw [← e]
      exact ⟨Nat.le_refl _, by show n < n + (k + 1); omega, q⟩
section SUM
variable {D : Nat} {σ : Sg} {Λ : LT} {s s0 : ST} {h : HT}
/-- the law's own row: cell f, 4 long -/
def FR4 (σ : Sg) (f : Nat) (A : Int32 → Int32) (n : Nat) : Prop := dl σ f = 4 ∧ ∀ i, i < n → σ f i = A (nI i)
theorem FR4.fc {σ' : Sg} {f n : Nat} {A : Int32 → Int32} (hf : NT ≤ f) (r : FR4 σ f A n) (c : Fc σ σ') : FR4 σ' f A n := by
  have e := c f (by have : NT = 143 := rfl; omega)
  refine ⟨?_, fun i hi => by rw [e]; exact r.2 i hi⟩
  have := r.1
  unfold dl at this ⊢
  rw [e]
  exact this
theorem inb4 {x f : Nat} (hx : x < 4) (e : dl σ f = 4) : inb (nI x) (dl σ f) = true := by rw [e]; exact (inb_nI (by omega)).mpr hx
/-- how many of its own are there -/
theorem g_own (g : GC D σ Λ s h) {v : Nat} (hv : v ≤ 1) {α : Type} (y : Int32 → Option α) : (if nI v = 0 then (bd1 (J_X7_count 4 σ) y) else (bd1 (J_X7_count 5 σ) y)) = y (nI (staN Λ s v)) := by
  rcases (show v = 0 ∨ v = 1 by omega) with rfl | rfl
  · rw [if_pos (show nI 0 = 0 from rfl), g_c4 g, bd1_s]
  · rw [if_neg (show ¬ nI 1 = 0 from by decide), g_c5 g, bd1_s]
/-- the end: all is as it was kept -/
theorem lm_end (g : GC D σ Λ s h) (hD : D + 2 < 2 ^ 20) (hq1 : hq h = 1) (hk0 : hK h 0 = s0) {f k : Nat} {A : Int32 → Int32} (hf : NT ≤ f) (hk : k < 4) (r : FR4 σ f A 4) (hA : A (nI k) = -4) (w : Int32) : ∃ σ' h', J_L_summers_b318 f (nI (sD s0)) w (nI k) w σ = some (1, f + 1, σ') ∧ GC (D + 2) σ' Λ s0 h' ∧ hq h' = 0 ∧ Fc σ σ' := by
  obtain ⟨σ1, r1, r2, r3⟩ := g_back (q := 0) g hq1
  rw [hk0] at r2
  obtain ⟨σ2, h2, t1, t2, t3, t4, t5⟩ := la_games r2 hD
  refine ⟨σ2, h2, ?_, t2, by rw [t3]; show hq h - 1 = 0; omega, r3.tr t5⟩
  unfold J_L_summers_b318
  rw [if_pos rfl, if_pos (inb4 hk r.1), nI_clamp (n := k) (by omega), r.2 k hk, hA, if_pos rfl, r1, bd2_s, if_neg (by decide), g_c3 r2, bd1_s, if_pos rfl, t1, bd2_s, if_neg (by decide)]
/-- whether one is on the well -/
theorem lm_wet (g : GC D σ Λ s h) (l : LX σ Λ) (hw : lWl Λ ≠ 36) {v : Nat} (hv : v ≤ 1) {f : Nat} (x4 x6 x7 : Int32) : ∀ (k b j : Nat) (w : Bool), b + k = 9 → 9 < b + j → (w || watK Λ s v k b) = true → J_L_summers_b236 f j (nI v) x4 x6 x7 (bI w) (nI b) σ = J_L_summers_b318 f x4 x6 x7 (nI (staN Λ s v)) σ := by
  have n8 := g.nb
  have w36 : lWl Λ < 36 := by
    have := g.lk.sq
    rcases g.lk.2.2.2.2.2.1 with z | z
    · exact absurd z hw
    · omega
  have fin : ∀ (b j : Nat) (w : Bool), lNb Λ ≤ b → b < 100 → w = true → J_L_summers_b236 f (j + 1) (nI v) x4 x6 x7 (bI w) (nI b) σ = J_L_summers_b318 f x4 x6 x7 (nI (staN Λ s v)) σ := by
    intro b j w h1 h2 hwt
    rw [J_L_summers_b236, l.2.2.1, if_pos ((nI_leI (by omega) (by omega)).mpr h1), hwt, if_neg (show ¬ bI true = 0 from by decide)]
    exact g_own g hv _
  intro k
  induction k with
  | zero =>
    intro b j w hb hj ht
    obtain ⟨j, rfl⟩ : ∃ i, j = i + 1 := ⟨j - 1, by omega⟩
    have z : watK Λ s v 0 b = false := rfl
    rw [z, Bool.or_false] at ht
    exact fin b j w (by omega) (by omega) ht
  | succ k ih =>
    intro b j w hb hj ht
    obtain ⟨j, rfl⟩ : ∃ i, j = i + 1 := ⟨j - 1, by omega⟩
    unfold watK at ht
    by_cases hb' : b < lNb Λ
    · rw [if_pos hb'] at ht
      have a1 : nI b + (1 : Int32) = nI (b + 1) := by rw [li_1, nI_add]
      rw [J_L_summers_b236, l.2.2.1, if_neg (fun z => by have := (nI_leI (by omega) (by omega)).mp z; omega), a1]
      cases w
      · have i13 : (13 : Int32) + nI b = nI (13 + b) := by rw [show (13 : Int32) = nI 13 from rfl, nI_add]
        have ib : inb (nI (13 + b)) 22 = true := (inb_nI (by omega)).mpr (by omega)
        have k3 := (g.lk.2.2.2.2.2.2.2.1 b hb').1
        have v1 := (g.lk.2.2.2.2.2.2.2.1 b hb').2
        rw [if_pos (show bI false = 0 from rfl), i13, if_pos ib, nI_clamp (n := 13 + b) (by omega), l.2.2.2.2.1 b hb']
        rw [Bool.false_or] at ht
        have r := fun w' hh => ih (b + 1) j w' (by omega) (by omega) hh
        by_cases ek : lKd Λ b = 0
        · rw [if_pos (neq li_0 ek), g_vl g hb', bd1_s]
          by_cases ev : lVl Λ b = v
          · rw [if_pos (by rw [ev]), g_pl g hb', bd1_s, l.2.2.2.1, plI_of hw]
            have pe := plI_eq (g.p36 hb') w36
            by_cases ep : sP s b = lWl Λ
            · rw [if_pos (pe.mpr ep)]
              exact r true (by rw [Bool.true_or])
            · rw [if_neg (fun z => ep (pe.mp z))]
              refine r false ?_
              have ep' : decide (sP s b = lWl Λ) = false := decide_eq_false ep
              rw [ep', Bool.and_false, Bool.and_false, Bool.false_or] at ht
              rw [Bool.false_or]
              exact ht
          · rw [if_neg (fun z => ev ((nI_inj (by omega) (by omega)).mp z))]
            refine r false ?_
            have ev' : decide (lVl Λ b = v) = false := decide_eq_false ev
            rw [ev', Bool.false_and, Bool.false_or] at ht
            rw [Bool.false_or]
            exact ht
        · rw [if_neg (nne li_0 (by omega) (by omega) ek)]
          refine r false ?_
          have ek' : decide (lKd Λ b = 0) = false := decide_eq_false ek
          rw [ek', Bool.false_and, Bool.and_false, Bool.false_or] at ht
          rw [Bool.false_or]
          exact ht
      · rw [if_neg (show ¬ bI true = 0 from by decide)]
        exact ih (b + 1) j true (by omega) (by omega) (by rw [Bool.true_or])
    · rw [if_neg hb', Bool.or_false] at ht
      exact fin b j w (by omega) (by omega) ht
/-- the days, one by one -/
theorem lm_days {v m : Nat} (hv : v ≤ 1) (hm : m ≤ 5) (hw : lWl Λ ≠ 36) {r : List Nat} {A : Int32 → Int32} (hA : ∀ k, k < 4 → A (nI k) = ansS v (sD s0) (nI k) (m, r)) {f : Nat} (hf : NT ≤ f) : ∀ (rem n j D : Nat) (s : ST) (h : HT) (σ : Sg), n + rem = m → rem < j → D + rem + 2 < 2 ^ 20 → GC D σ Λ s h → LX σ Λ → FR4 σ f A 4 → sD s = sD s0 + n → smF Λ v rem s = some (r.drop n) → staN Λ s v = staN Λ s0 v → hq h = 1 → hK h 0 = s0 → ∃ σ' h', J_L_summers_b122 f j (nI v) (nI m) (nI (sD s0)) (nI (staN Λ s0 v)) (nI ((n + 1 - ofD v (sD s0)) / 2)) (nI n) σ = some (1, f + 1, σ') ∧ GC (D + rem + 2) σ' Λ s0 h' ∧ hq h' = 0 ∧ Fc σ σ' := by
  have o1 : ofD v (sD s0) ≤ 1 := by unfold ofD; split <;> omega
  intro rem
  induction rem with
  | zero =>
    intro n j D s h σ hn hj hD g l fr hs hsm hst hq1 hk0
    obtain ⟨j, rfl⟩ : ∃ i, j = i + 1 := ⟨j - 1, by omega⟩
    have wt := smF_end hsm
    have hk : (n + 1 - ofD v (sD s0)) / 2 < 4 := by omega
    have e4 : A (nI ((n + 1 - ofD v (sD s0)) / 2)) = -4 := by
      rw [hA _ hk]
      unfold ansS
      rw [if_neg (nI_lt72 (by omega)).2]
      by_cases c : (nI ((n + 1 - ofD v (sD s0)) / 2) : Int32) ≤ 2
      · rw [if_pos c, if_pos]
        show m ≤ _
        rw [nI_clamp (by omega)]
        omega
      · rw [if_neg c]
    obtain ⟨σ1, h1, r1, r2, r3, r4⟩ := lm_end g (by omega) hq1 hk0 hf hk fr e4 (nI (staN Λ s0 v))
    refine ⟨σ1, h1, ?_, r2, r3, r4⟩
    rw [J_L_summers_b122, if_pos ((nI_leI (by omega) (by omega)).mpr (by omega)), if_pos (nI_ge0 (by omega)), show J_L_summers_b236 f FU (nI v) (nI (sD s0)) (nI (staN Λ s0 v)) (nI ((n + 1 - ofD v (sD s0)) / 2)) 0 0 σ = _ from lm_wet g l hw hv (nI (sD s0)) (nI (staN Λ s0 v)) (nI ((n + 1 - ofD v (sD s0)) / 2)) 9 0 FU false rfl (by rw [FU_eq]; decide) (by rw [Bool.false_or]; exact wt), hst]
    exact r1
  | succ rem ih =>
    intro n j D s h σ hn hj hD g l fr hs hsm hst hq1 hk0
    obtain ⟨j, rfl⟩ : ∃ i, j = i + 1 := ⟨j - 1, by omega⟩
    have dd := g.d
    obtain ⟨lo, d, r', e1, d1, d2, d3, d4, d5⟩ := smF_step hsm
    obtain ⟨σ1, x, y1, y2, y3, y4, y5⟩ := g_does g (by omega) lo d1 d2
    have rn : r[n]? = some d := by
      have := List.getElem?_drop (xs := r) (i := n) (j := 0)
      rw [e1, Nat.add_zero] at this
      exact this.symm
    have rd : r.drop (n + 1) = r' := by
      have : r.drop (n + 1) = (r.drop n).drop 1 := by rw [List.drop_drop]
      rw [this, e1]
      rfl
    have a1 : nI n + (1 : Int32) = nI (n + 1) := by rw [li_1, nI_add]
    have q0 : hq (hAdd h s d) = 1 := hq1
    have k0 : hK (hAdd h s d) 0 = s0 := hk0
    obtain ⟨σ2, h2, t1, t2, t3, t4⟩ := ih (n + 1) j (D + 1) (livS Λ s d) (hAdd h s d) σ1 (by omega) (by omega) (by omega) y4 (l.fc y5) (fr.fc hf y5) (by rw [livS_D]; omega) (by rw [rd]; exact d5) (by rw [d4, hst]) q0 k0
    refine ⟨σ2, h2, ?_, by rw [show D + (rem + 1) + 2 = D + 1 + rem + 2 by omega]; exact t2, t3, y5.tr t4⟩
    -- the drive, done
    have c175 : ∀ (its k : Nat), its ≤ 1 → nI (k + its) = nI ((n + 1 + 1 - ofD v (sD s0)) / 2) → J_L_summers_b175 f (fun x2 x3 x4 x6 x7 x8 σ => J_L_summers_b122 f j x2 x3 x4 x6 x7 x8 σ) (nI v) (nI m) (nI (sD s0)) (nI (staN Λ s0 v)) (nI n) (nI d) (nI its) (nI k) σ = some (1, f + 1, σ2) := by
      intro its k hi hk
      unfold J_L_summers_b175
      rw [if_neg (nI_nlt0 (by omega)), nI_add, hk, a1]
      by_cases e9 : d = 99
      · rw [if_pos (neq li_99 e9), y1 e9, bd2_s, if_pos (nI_ge0 (by omega))]
        exact t1
      · rw [if_neg (nne li_99 (by omega) (by omega) e9), y2 e9, bd2_s, if_pos (nI_ge0 (by omega))]
        exact t1
    have par : (sD s0 + n) % 2 = v ↔ n % 2 = ofD v (sD s0) := by
      unfold ofD
      by_cases c : sD s0 % 2 = v
      · rw [if_pos c]; omega
      · rw [if_neg c]; omega
    rw [J_L_summers_b122, if_neg (fun z => by have := (nI_leI (by omega) (by omega)).mp z; omega), nI_add, li_2, rmI_nI (by omega) (by omega)]
    by_cases own : (sD s0 + n) % 2 = v
    · have on := par.mp own
      have hk : (n + 1 - ofD v (sD s0)) / 2 < 3 := by omega
      have e2 : 2 * ((n + 1 - ofD v (sD s0)) / 2) + ofD v (sD s0) = n := by omega
      have ek : (n + 1 - ofD v (sD s0)) / 2 + 1 = (n + 1 + 1 - ofD v (sD s0)) / 2 := by omega
      have e4 : A (nI ((n + 1 - ofD v (sD s0)) / 2)) = nI d := by
        rw [hA _ (by omega)]
        unfold ansS
        rw [if_neg (nI_lt72 (by omega)).2, if_pos (show (nI ((n + 1 - ofD v (sD s0)) / 2) : Int32) ≤ 2 from by rw [li_2, nI_leI (by omega) (by omega)]; omega), nI_clamp (by omega), e2, if_neg (show ¬ m ≤ n by omega)]
        show nI (r.getD n 0) = nI d
        rw [List.getD_eq_getElem?_getD, rn]
        rfl
      rw [if_pos (by rw [own])]
      unfold J_L_summers_b144
      rw [if_neg (show ¬ (1 : Int32) = 0 from by decide), if_neg (show ¬ (1 : Int32) = 0 from by decide), if_pos (inb4 (by omega) fr.1), nI_clamp (n := (n + 1 - ofD v (sD s0)) / 2) (by omega), fr.2 _ (by omega), e4]
      exact c175 1 _ (by decide) (by rw [ek])
    · have on : ¬ n % 2 = ofD v (sD s0) := fun z => own (par.mpr z)
      have ek : (n + 1 - ofD v (sD s0)) / 2 + 0 = (n + 1 + 1 - ofD v (sD s0)) / 2 := by omega
      have d99 : d = 99 := d3 (by rw [hs]; exact own)
      rw [if_neg (fun z => own ((nI_inj (by omega) (by omega)).mp z))]
      unfold J_L_summers_b144
      rw [if_pos rfl, if_pos rfl]
      have r := c175 0 ((n + 1 - ofD v (sD s0)) / 2) (by decide) (by rw [ek])
      rw [d99] at r
      exact r
/-- the row of drives -/
theorem lm_row {v : Nat} (hv : v ≤ 1) (hw : lWl Λ ≠ 36) (hD : D < 2 ^ 20) {f : Nat} (hf : NT ≤ f) (x3 x4 : Int32) : ∀ (k i j : Nat) (σ : Sg), i + k = 4 → k < j → GC D σ Λ s h → LX σ Λ → FR4 σ f (smA Λ s v) i → ∃ σ', J_L_summers_b73 f j (nI v) x3 x4 (nI i) σ = J_L_summers_b122 f FU (nI v) x3 x4 (nI (staN Λ s v)) 0 0 σ' ∧ GC D σ' Λ s h ∧ LX σ' Λ ∧ FR4 σ' f (smA Λ s v) 4 ∧ ∀ a, 140 < a → a ≠ f → σ' a = σ a := by
  have n143 : NT = 143 := rfl
  intro k
  induction k with
  | zero =>
    intro i j σ hi hj g l r
    obtain ⟨j, rfl⟩ : ∃ i, j = i + 1 := ⟨j - 1, by omega⟩
    have ei : i = 4 := by omega
    rw [ei] at r
    refine ⟨σ, ?_, g, l, r, fun _ _ _ => rfl⟩
    rw [J_L_summers_b73, ei, if_pos (show (4 : Int32) ≤ nI 4 from by decide)]
    exact g_own g hv _
  | succ k ih =>
    intro i j σ hi hj g l r
    obtain ⟨j, rfl⟩ : ∃ i, j = i + 1 := ⟨j - 1, by omega⟩
    have a1 : nI i + (1 : Int32) = nI (i + 1) := by rw [li_1, nI_add]
    obtain ⟨σ1, r1, r2, r3⟩ := g_summer g hD hv (nI_lt72 (show i < 72 by omega)).1
    rw [if_neg hw] at r1
    have rr := r.fc hf r3
    have i1 : inb (nI i) (dl σ1 f) = true := inb4 (by omega) rr.1
    have g2 : GC D (up σ1 f i (smA Λ s v (nI i))) Λ s h := r2.fr (Fs.up (P := fun a _ => a = f) Fs.rf rfl) fun a j z => by omega
    have l2 : LX (up σ1 f i (smA Λ s v (nI i))) Λ := (l.fc r3).fr (up_ne (by omega))
    have f2 : FR4 (up σ1 f i (smA Λ s v (nI i))) f (smA Λ s v) (i + 1) := by
      refine ⟨by rw [dl_up (by rw [rr.1]; omega), rr.1], fun q hq => ?_⟩
      by_cases ei : q = i
      · rw [ei, up_s]
      · rw [up_i ei]; exact rr.2 q (by omega)
    obtain ⟨σ2, t1, t2, t3, t4, t5⟩ := ih (i + 1) j (up σ1 f i (smA Λ s v (nI i))) (by omega) (by omega) g2 l2 f2
    refine ⟨σ2, ?_, t2, t3, t4, fun a z1 z2 => by rw [t5 a z1 z2, up_ne z2, r3 a z1]⟩
    rw [J_L_summers_b73, if_neg (show ¬ (4 : Int32) ≤ nI i from by rw [li_4, nI_leI (by omega) (by omega)]; omega), r1, bd2_s, if_pos i1, nI_clamp (n := i) (by omega), a1]
    exact t1
theorem la_summers (g : GC D σ Λ s h) (l : LX σ Λ) (hD : D + 20 < 2 ^ 20) (hq0 : hq h = 0) {f v : Nat} (hf : NT ≤ f) (hv : v ≤ 1) : ∃ N σ' h', J_L_summers f (nI v) σ = some (1, N, σ') ∧ f ≤ N ∧ N ≤ f + 1 ∧ GC (D + 7) σ' Λ s h' ∧ hq h' = 0 ∧ ∀ a, 140 < a → a < f → σ' a = σ a := by
  have n143 : NT = 143 := rfl
  obtain ⟨σ1, r1, r2, r3⟩ := g_summer g (by omega) hv (show (-1 : Int32) ≤ -1 by decide)
  have l1 := l.fc r3
  have sq := g.lk.sq
  unfold J_L_summers
  rw [r1, bd2_s, g_c3 r2, bd1_s, l1.2.2.2.1]
  by_cases hw : lWl Λ = 36
  · obtain ⟨σ2, h2, t1, t2, t3, t4, t5⟩ := la_games r2 (by omega)
    refine ⟨f, σ2, h2, ?_, Nat.le_refl _, by omega, t2.le (by omega), by rw [t3]; exact hq0, fun a z1 z2 => by rw [t5 a z1, r3 a z1]⟩
    rw [hw, if_neg (show ¬ (0 : Int32) ≤ plI 36 from by decide), if_pos rfl, if_pos rfl, t1, bd2_s, if_neg (by decide)]
  · have w36 : lWl Λ < 36 := by
      rcases g.lk.2.2.2.2.2.1 with z | z
      · exact absurd z hw
      · omega
    obtain ⟨σ2, t1, t2, t3⟩ := g_keep r2 (by omega)
    rw [hq0] at t1
    have g3 : GC D (nwa σ2 f 4) Λ s (hKeep h s) := t2.fr (R := fun a _ => a = f) (fun a j z => by rw [nwa_ne z]) fun a j z => by omega
    have l3 : LX (nwa σ2 f 4) Λ := (l1.fc t3).fr (nwa_ne (by omega))
    have q3 : hq (hKeep h s) = 1 := by show hq h + 1 = 1; omega
    have k3 : hK (hKeep h s) 0 = s := if_pos hq0.symm
    rw [if_neg hw, plI_of hw, if_pos (nI_ge0 (by omega))]
    -- what summer tells
    cases q : dayF Λ v s 6 0 with
    | none =>
      have sm : ∀ b, smA Λ s v b = -4 := fun b => by unfold smA; rw [q]
      obtain ⟨σ3, y1, y2, y3, y4, y5⟩ := lm_row hv hw (by omega) hf (-4) (nI (sD s)) 4 0 FU (nwa σ2 f 4) rfl (by rw [FU_eq]; decide) g3 l3 ⟨dl_nwa (by decide), fun i hi => absurd hi (Nat.not_lt_zero i)⟩
      obtain ⟨σ4, h4, z1, z2, z3, z4⟩ := lm_end y2 (by omega) q3 k3 hf (k := 0) (by decide) y4 (sm _) (nI (staN Λ s v))
      refine ⟨f + 1, σ4, h4, ?_, by omega, Nat.le_refl _, z2.le (by omega), z3, fun a h1 h2 => by rw [z4 a h1, y5 a h1 (by omega), nwa_ne (by omega), t3 a h1, r3 a h1]⟩
      have e122 : J_L_summers_b122 f FU (nI v) (-4) (nI (sD s)) (nI (staN Λ s v)) 0 0 σ3 = some (1, f + 1, σ4) := by
        rw [FU_eq]
        show J_L_summers_b122 f (999999999999999 + 1) (nI v) (-4) (nI (sD s)) (nI (staN Λ s v)) 0 0 σ3 = _
        rw [J_L_summers_b122, if_pos (by decide), if_neg (by decide), show J_L_summers_b236 f FU (nI v) (nI (sD s)) (nI (staN Λ s v)) 0 1 0 σ3 = _ from lm_wet y2 y3 hw hv (nI (sD s)) (nI (staN Λ s v)) 0 9 0 FU true rfl (by rw [FU_eq]; decide) (by rw [Bool.true_or])]
        exact z1
      rw [sm, if_neg (by decide), if_neg (by decide), if_neg (by decide), t1, bd2_s, if_pos (by decide), show J_L_summers_b73 f FU (nI v) (-4) (nI (sD s)) 0 (nwa σ2 f 4) = _ from y1, e122]
      unfold ckA
      dsimp only
      rw [if_pos (Nat.le_refl _)]
    | some p =>
      obtain ⟨p0, p1, p2⟩ := dayF_some 6 0 p q
      have sm : ∀ b, smA Λ s v b = if b = -1 then nI p.1 else ansS v (sD s) b p := fun b => by unfold smA; rw [q]
      have sm1 : smA Λ s v (-1) = nI p.1 := by rw [sm, if_pos rfl]
      obtain ⟨σ3, y1, y2, y3, y4, y5⟩ := lm_row hv hw (by omega) hf (nI p.1) (nI (sD s)) 4 0 FU (nwa σ2 f 4) rfl (by rw [FU_eq]; decide) g3 l3 ⟨dl_nwa (by decide), fun i hi => absurd hi (Nat.not_lt_zero i)⟩
      have ans : ∀ k, k < 4 → smA Λ s v (nI k) = ansS v (sD s) (nI k) (p.1, p.2) := fun k hk => by
        rw [sm, if_neg (nI_lt72 (show k < 72 by omega)).2]
      obtain ⟨σ4, h4, z1, z2, z3, z4⟩ := lm_days (m := p.1) (r := p.2) hv (by omega) hw ans hf p.1 0 FU D s (hKeep h s) σ3 (by omega) (by rw [FU_eq]; omega) (by omega) y2 y3 y4 rfl p2 rfl q3 k3
      have k00 : (0 + 1 - ofD v (sD s)) / 2 = 0 := by unfold ofD; split <;> rfl
      rw [k00] at z1
      refine ⟨f + 1, σ4, h4, ?_, by omega, Nat.le_refl _, z2.le (by omega), z3, fun a h1 h2 => by rw [z4 a h1, y5 a h1 (by omega), nwa_ne (by omega), t3 a h1, r3 a h1]⟩
      rw [sm1, if_neg (fun z => nI_nlt0 (show p.1 < 2 ^ 31 by omega) (Int32.lt_trans z (by decide))), if_neg (show ¬ (5 : Int32) < nI p.1 from by rw [li_5, nI_ltI (by omega) (by omega)]; omega), if_neg (nI_lt72 (show p.1 < 72 by omega)).2, t1, bd2_s, if_pos (by decide), show J_L_summers_b73 f FU (nI v) (nI p.1) (nI (sD s)) 0 (nwa σ2 f 4) = _ from y1, show J_L_summers_b122 f FU (nI v) (nI p.1) (nI (sD s)) (nI (staN Λ s v)) 0 0 σ3 = _ from z1]
      unfold ckA
      dsimp only
      rw [if_pos (Nat.le_refl _)]
end SUM
