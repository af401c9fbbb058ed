/-! the law's own numbers: m (cell 141) tells the land -/
def LX (σ : Sg) (Λ : LT) : Prop := σ 141 0 = nI (lSq Λ) ∧ σ 141 1 = nI (lWd Λ) ∧ σ 141 2 = nI (lNb Λ) ∧ σ 141 3 = plI (lWl Λ) ∧ (∀ b, b < lNb Λ → σ 141 (13 + b) = nI (lKd Λ b)) ∧ ∀ x, x < lSq Λ → J_L_bog (nI x) σ = some (bI (decide (lM Λ x = 9)))
theorem LX.fr {σ σ' : Sg} {Λ : LT} (l : LX σ Λ) (f : σ' 141 = σ 141) : LX σ' Λ := by
  obtain ⟨l0, l1, l2, l3, l4, l5⟩ := l
  refine ⟨by rw [f]; exact l0, by rw [f]; exact l1, by rw [f]; exact l2, by rw [f]; exact l3, fun b hb => by rw [f]; exact l4 b hb, fun x hx => ?_⟩
  have := l5 x hx
  unfold J_L_bog at this ⊢
  rw [f]
  exact this
theorem LX.fc {σ σ' : Sg} {Λ : LT} (l : LX σ Λ) (f : Fc σ σ') : LX σ' Λ := l.fr (f 141 (by decide))
/-! sums -/
theorem suN_lt {f g : Nat → Nat} : ∀ n, (∀ i, i < n → f i = g i) → suN f n = suN g n
  | 0, _ => rfl
  | n + 1, h => by
    show suN f n + f n = suN g n + g n
    rw [suN_lt n (fun i hi => h i (by omega)), h n (by omega)]
theorem suN_add (f g : Nat → Nat) : ∀ n, suN (fun i => f i + g i) n = suN f n + suN g n
  | 0 => rfl
  | n + 1 => by
    show suN (fun i => f i + g i) n + (f n + g n) = (suN f n + f n) + (suN g n + g n)
    rw [suN_add f g n]
    omega
theorem suN_mono {f g : Nat → Nat} : ∀ n, (∀ i, i < n → f i ≤ g i) → suN f n ≤ suN g n
  | 0, _ => Nat.le_refl _
  | n + 1, h => by
    show suN f n + f n ≤ suN g n + g n
    have h1 := suN_mono n (fun i hi => h i (by omega))
    have h2 := h n (by omega)
    omega
theorem suN_zero : ∀ n, suN (fun _ => 0) n = 0
  | 0 => rfl
  | n + 1 => by
    show suN (fun _ => 0) n + 0 = 0
    rw [suN_zero n]
theorem suN_swap (f : Nat → Nat → Nat) (n : Nat) : ∀ m, suN (fun x => suN (fun b => f x b) n) m = suN (fun b => suN (fun x => f x b) m) n
  | 0 => (suN_zero n).symm
  | m + 1 => by
    show suN (fun x => suN (fun b => f x b) n) m + suN (fun b => f m b) n = suN (fun b => suN (fun x => f x b) m + f m b) n
    rw [suN_swap f n m, suN_add (fun b => suN (fun x => f x b) m) (fun b => f m b) n]
theorem suN_ind {a : Nat} : ∀ n, suN (fun i => if i = a then 1 else 0) n = if a < n then 1 else 0
  | 0 => rfl
  | n + 1 => by
    show suN (fun i => if i = a then 1 else 0) n + (if n = a then 1 else 0) = _
    rw [suN_ind n]
    by_cases e : n = a
    · rw [if_neg (by omega), if_pos e, if_pos (by omega)]
    · rw [if_neg e]
      by_cases e2 : a < n
      · rw [if_pos e2, if_pos (by omega)]
      · rw [if_neg e2, if_neg (by omega)]
/-- how many are on the meadow -/
def onF (s : ST) (b : Nat) : Nat := if sP s b = 36 then 0 else 1
def onS (Λ : LT) (s : ST) : Nat := suN (onF s) (lNb Λ)
def occF (Λ : LT) (s : ST) (x : Nat) : Nat := if onN Λ s x = 8 then 0 else 1
section AGRS
variable {Λ : LT} {s : ST}
theorem onN_of (hΛ : LOK Λ) (hs : SOK Λ s) {b : Nat} (hb : b < lNb Λ) (hp : sP s b ≠ 36) : onN Λ s (sP s b) = b := by
  rcases onN_spec Λ s (sP s b) hΛ.2.2.1.2 with ⟨-, h⟩ | ⟨h1, h2⟩
  · exact absurd rfl (h b hb)
  · exact hs.2.2.1 _ _ h1 hb h2 (by rw [h2]; exact hp)
theorem occ_on (hΛ : LOK Λ) (hs : SOK Λ s) : suN (occF Λ s) (lSq Λ) = onS Λ s := by
  have sq := hΛ.sq
  have e1 : ∀ x, x < lSq Λ → occF Λ s x = suN (fun b => if sP s b = x then 1 else 0) (lNb Λ) := by
    intro x hx
    unfold occF
    rcases onN_spec Λ s x hΛ.2.2.1.2 with ⟨h0, h⟩ | ⟨h1, h2⟩
    · rw [if_pos h0, suN_lt (g := fun _ => 0) _ (fun i hi => if_neg (h i hi)), suN_zero]
    · rw [if_neg (by have := hΛ.2.2.1.2; omega), suN_lt (g := fun b => if b = onN Λ s x then 1 else 0) _ (fun i hi => ?_), suN_ind, if_pos h1]
      by_cases e : i = onN Λ s x
      · rw [if_pos e, if_pos (by rw [e]; exact h2)]
      · rw [if_neg e, if_neg (fun z => e (hs.2.2.1 i _ hi h1 (by rw [z, h2]) (by rw [z]; omega)))]
  rw [suN_lt _ e1, suN_swap (fun x b => if sP s b = x then 1 else 0)]
  unfold onS
  refine suN_lt _ (fun b hb => ?_)
  unfold onF
  have e3 : suN (fun x => if sP s b = x then 1 else 0) (lSq Λ) = suN (fun x => if x = sP s b then 1 else 0) (lSq Λ) := suN_lt _ (fun i _ => by
    by_cases e : sP s b = i
    · rw [if_pos e, if_pos e.symm]
    · rw [if_neg e, if_neg (fun z => e z.symm)])
  rw [e3, suN_ind]
  rcases hs.2.1 b hb with e | ⟨e, -⟩
  · rw [if_pos e, if_neg (by omega)]
  · rw [if_pos e, if_neg (show ¬ sP s b = 36 by omega)]
theorem sta_on (hΛ : LOK Λ) : staN Λ s 0 + staN Λ s 1 = onS Λ s := by
  have key : ∀ k b x y, b + k = 9 → staK Λ s 0 k b x + staK Λ s 1 k b y + suN (onF s) (min b (lNb Λ)) = x + y + onS Λ s := by
    have n8 := hΛ.2.2.1.2
    intro k
    induction k with
    | zero =>
      intro b x y hb
      rw [Nat.min_eq_right (by omega)]
      rfl
    | succ k ih =>
      intro b x y hb
      by_cases h : b < lNb Λ
      · have v1 := (hΛ.2.2.2.2.2.2.2.1 b h).2
        have st : suN (onF s) (min (b + 1) (lNb Λ)) = suN (onF s) (min b (lNb Λ)) + onF s b := by
          rw [Nat.min_eq_left (by omega), Nat.min_eq_left (by omega)]
          rfl
        unfold staK
        rw [if_pos h, if_pos h]
        by_cases e : sP s b = 36
        · have f0 : onF s b = 0 := if_pos e
          rw [if_pos e, if_pos e]
          have := ih (b + 1) x y (by omega)
          omega
        · have f1 : onF s b = 1 := if_neg e
          rw [if_neg e, if_neg e]
          rcases (show lVl Λ b = 0 ∨ lVl Λ b = 1 by omega) with v | v
          · rw [v, if_pos rfl, if_neg (by decide)]
            have := ih (b + 1) (x + 1) y (by omega)
            omega
          · rw [v, if_neg (by decide), if_pos rfl]
            have := ih (b + 1) x (y + 1) (by omega)
            omega
      · unfold staK
        rw [if_neg h, if_neg h, Nat.min_eq_right (by omega)]
        rfl
  have := key 9 0 0 0 rfl
  rw [Nat.min_eq_left (by omega)] at this
  have z : suN (onF s) 0 = 0 := rfl
  unfold staN
  omega
theorem onS_le (hΛ : LOK Λ) : onS Λ s ≤ 8 := by
  have := suN_le (f := onF s) (fun i => by unfold onF; split <;> omega) (lNb Λ)
  have := hΛ.2.2.1.2
  unfold onS
  omega
theorem worK_add (y : Int32) : ∀ k b x, worK Λ s k b (y + x) = y + worK Λ s k b x
  | 0, b, x => rfl
  | k + 1, b, x => by
    unfold worK
    by_cases h : b < lNb Λ
    · rw [if_pos h, if_pos h, ← worK_add y k]
      congr 1
      by_cases e : sP s b = 36
      · rw [if_pos e, if_pos e]
      · rw [if_neg e, if_neg e]
        by_cases v : lVl Λ b = 0
        · rw [if_pos v, if_pos v, Int32.add_assoc]
        · rw [if_neg v, if_neg v, Int32.add_assoc]
    · rw [if_neg h, if_neg h]
theorem wor_100 : worK Λ s 9 0 100 = worI Λ s + 100 := by
  have := worK_add (Λ := Λ) (s := s) 100 9 0 0
  rw [ad0] at this
  rw [this, Int32.add_comm]
  rfl
/-! who has lost, as bits -/
def enc (a b : Bool) : Int32 := (if a = true then 1 else 0) ||| (if b = true then 2 else 0)
theorem enc_or : ∀ a b : Bool, ∀ c d : Bool, enc a b ||| enc c d = enc (a || c) (b || d) := by decide
theorem enc_not : ∀ a b c d : Bool, enc a b &&& (enc c d ^^^ (-1 : Int32)) = enc (a && !c) (b && !d) := by decide
theorem vI_enc {v : Nat} (h : v ≤ 1) : vI v = enc (decide (v = 0)) (decide (v = 1)) := by
  rcases (show v = 0 ∨ v = 1 by omega) with rfl | rfl <;> decide
theorem enc_0 : enc false false = 0 := by decide
def hadB (Λ : LT) (v : Nat) : Nat → Nat → Bool
  | 0, _ => false
  | k + 1, b => if b < lNb Λ then (decide (lKd Λ b = 3) && decide (lVl Λ b = v)) || hadB Λ v k (b + 1) else false
def havB (Λ : LT) (s : ST) (v : Nat) : Nat → Nat → Bool
  | 0, _ => false
  | k + 1, b => if b < lNb Λ then (decide (lKd Λ b = 3) && (decide (lVl Λ b = v) && decide (sP s b ≠ 36))) || havB Λ s v k (b + 1) else false
theorem lostK_enc (hΛ : LOK Λ) : ∀ k b (a0 a1 c0 c1 : Bool), lostK Λ s k b (enc a0 a1) (enc c0 c1) = enc ((a0 || hadB Λ 0 k b) && !(c0 || havB Λ s 0 k b)) ((a1 || hadB Λ 1 k b) && !(c1 || havB Λ s 1 k b))
  | 0, b, a0, a1, c0, c1 => by
    unfold lostK hadB havB
    rw [enc_not, Bool.or_false, Bool.or_false, Bool.or_false, Bool.or_false]
  | k + 1, b, a0, a1, c0, c1 => by
    unfold lostK hadB havB
    by_cases h : b < lNb Λ
    · have v1 := (hΛ.2.2.2.2.2.2.2.1 b h).2
      rw [if_pos h, if_pos h, if_pos h, if_pos h, if_pos h]
      by_cases e3 : lKd Λ b = 3
      · have e3' : decide (lKd Λ b = 3) = true := decide_eq_true e3
        rw [if_pos e3, e3', vI_enc v1, enc_or]
        by_cases e : sP s b = 36
        · rw [if_pos e, or0, lostK_enc hΛ k]
          have e' : decide (sP s b ≠ 36) = false := decide_eq_false (fun z => z e)
          rw [e']
          simp only [Bool.true_and, Bool.and_false, Bool.false_or, Bool.or_assoc]
        · rw [if_neg e, enc_or, lostK_enc hΛ k]
          have e' : decide (sP s b ≠ 36) = true := decide_eq_true e
          rw [e']
          simp only [Bool.true_and, Bool.and_true, Bool.or_assoc]
      · have e3' : decide (lKd Λ b = 3) = false := decide_eq_false e3
        rw [if_neg e3, e3', lostK_enc hΛ k]
        simp only [Bool.false_and, Bool.false_or]
    · rw [if_neg h, if_neg h, if_neg h, if_neg h, if_neg h, enc_not, Bool.or_false, Bool.or_false, Bool.or_false, Bool.or_false]
theorem lostI_enc (hΛ : LOK Λ) : lostI Λ s = enc (hadB Λ 0 9 0 && !havB Λ s 0 9 0) (hadB Λ 1 9 0 && !havB Λ s 1 9 0) := by
  have := lostK_enc (s := s) hΛ 9 0 false false false false
  rw [enc_0, Bool.false_or, Bool.false_or, Bool.false_or, Bool.false_or] at this
  exact this
/-- the law's own way to tell it -/
def lawL (Λ : LT) (s : ST) : Nat → Nat → Int32 → Int32
  | 0, _, x => x
  | k + 1, b, x => if b < lNb Λ then lawL Λ s k (b + 1) (if lKd Λ b = 3 ∧ havB Λ s (lVl Λ b) 9 0 = false then x ||| ((1 : Int32) <<< (nI (lVl Λ b) &&& 31)) else x) else x
theorem shl_enc {v : Nat} (h : v ≤ 1) : ((1 : Int32) <<< (nI v &&& 31)) = enc (decide (v = 0)) (decide (v = 1)) := by
  rcases (show v = 0 ∨ v = 1 by omega) with rfl | rfl <;> decide
theorem lawL_enc (hΛ : LOK Λ) : ∀ k b (a0 a1 : Bool), lawL Λ s k b (enc a0 a1) = enc (a0 || (hadB Λ 0 k b && !havB Λ s 0 9 0)) (a1 || (hadB Λ 1 k b && !havB Λ s 1 9 0))
  | 0, b, a0, a1 => by
    unfold lawL hadB
    rw [Bool.false_and, Bool.false_and, Bool.or_false, Bool.or_false]
  | k + 1, b, a0, a1 => by
    unfold lawL hadB
    by_cases h : b < lNb Λ
    · have v1 := (hΛ.2.2.2.2.2.2.2.1 b h).2
      rw [if_pos h, if_pos h, if_pos h]
      by_cases e3 : lKd Λ b = 3
      · have e3' : decide (lKd Λ b = 3) = true := decide_eq_true e3
        rw [e3', shl_enc v1]
        generalize hA : havB Λ s 0 9 0 = A
        generalize hB : havB Λ s 1 9 0 = B
        rcases (show lVl Λ b = 0 ∨ lVl Λ b = 1 by omega) with v | v
        · rw [v, hA]
          cases A
          · rw [if_pos ⟨e3, rfl⟩, enc_or, lawL_enc hΛ k, hA, hB]
            simp
          · rw [if_neg (fun z => by cases z.2), lawL_enc hΛ k, hA, hB]
            simp
        · rw [v, hB]
          cases B
          · rw [if_pos ⟨e3, rfl⟩, enc_or, lawL_enc hΛ k, hA, hB]
            simp
          · rw [if_neg (fun z => by cases z.2), lawL_enc hΛ k, hA, hB]
            simp
      · have e3' : decide (lKd Λ b = 3) = false := decide_eq_false e3
        rw [if_neg (fun z => e3 z.1), e3', lawL_enc hΛ k]
        simp only [Bool.false_and, Bool.false_or]
    · rw [if_neg h, if_neg h, if_neg h, Bool.false_and, Bool.false_and, Bool.or_false, Bool.or_false]
theorem lawL_lost (hΛ : LOK Λ) : lawL Λ s 9 0 0 = lostI Λ s := by
  have := lawL_enc (s := s) hΛ 9 0 false false
  rw [enc_0, Bool.false_or, Bool.false_or] at this
  rw [this, lostI_enc hΛ]
/-- nobody of them is on the meadow, so far -/
def nonK (Λ : LT) (s : ST) (v : Nat) : Nat → Nat → Bool → Bool
  | 0, _, t => t
  | k + 1, c, t => if c < lNb Λ then (if t = true then nonK Λ s v k (c + 1) (!(decide (lKd Λ c = 3) && (decide (lVl Λ c = v) && decide (sP s c ≠ 36)))) else t) else t
theorem nonK_hav {v : Nat} : ∀ k c t, nonK Λ s v k c t = (t && !havB Λ s v k c)
  | 0, c, t => by
    unfold nonK havB
    cases t <;> rfl
  | k + 1, c, t => by
    unfold nonK havB
    by_cases h : c < lNb Λ
    · rw [if_pos h, if_pos h]
      cases t
      · rfl
      · rw [if_pos rfl, nonK_hav k]
        simp
    · rw [if_neg h, if_neg h]
      cases t <;> rfl
end AGRS
section AGR
variable {D : Nat} {σ : Sg} {Λ : LT} {s : ST} {h : HT}
theorem bI_ne {t : Bool} : (bI t = 0) ↔ t = false := by cases t <;> decide
theorem bI_1 {t : Bool} : (bI t = 1) ↔ t = true := by cases t <;> decide
theorem plI_ge {x : Nat} (hx : x ≤ 36) : (0 : Int32) ≤ plI x ↔ x ≠ 36 := by
  unfold plI
  by_cases e : x = 36
  · rw [if_pos e]
    exact ⟨fun z => absurd z (by decide), fun z => absurd e z⟩
  · rw [if_neg e]
    exact ⟨fun _ => e, fun _ => nI_ge0 (by omega)⟩
theorem onI_lt {n : Nat} (hn : n ≤ 8) : onI n < 0 ↔ n = 8 := by
  unfold onI
  by_cases e : n = 8
  · rw [if_pos e]
    exact ⟨fun _ => e, fun _ => by decide⟩
  · rw [if_neg e]
    exact ⟨fun z => absurd z (nI_nlt0 (by omega)), fun z => absurd z e⟩
/-- the village's own: nobody of its kings is there -/
theorem la_none (g : GC D σ Λ s h) (l : LX σ Λ) (y140 : Int32 → Int32 → Int32 → Int32 → Int32 → Int32 → Sg → Option Int32) (x2 x3 x4 x5 x6 x7 : Int32) {v : Nat} (hv : v ≤ 1) : ∀ (k c j : Nat) (t : Bool), c + k = 9 → 9 < c + j → J_L_agrees_b340 y140 j x2 x3 x4 x5 x6 x7 (nI v) (bI t) (nI c) σ = J_L_agrees_b399 y140 x2 x3 x4 x5 x6 x7 (nI v) (bI (nonK Λ s v k c t)) σ := by
  have n8 := g.nb
  intro k
  induction k with
  | zero =>
    intro c j t hc hj
    obtain ⟨j, rfl⟩ : ∃ i, j = i + 1 := ⟨j - 1, by omega⟩
    rw [J_L_agrees_b340, l.2.2.1, if_pos ((nI_leI (by omega) (by omega)).mpr (by omega))]
    rfl
  | succ k ih =>
    intro c j t hc hj
    obtain ⟨j, rfl⟩ : ∃ i, j = i + 1 := ⟨j - 1, by omega⟩
    rw [J_L_agrees_b340, l.2.2.1, nonK]
    by_cases hc' : c < lNb Λ
    · have a1 : nI c + (1 : Int32) = nI (c + 1) := by rw [li_1, nI_add]
      rw [if_neg (fun z => by have := (nI_leI (by omega) (by omega)).mp z; omega), if_pos hc']
      cases t
      · rw [if_pos (show bI false = 0 from rfl), if_neg (by decide)]
      · have k3 := kdN_le (s := s) g.lk hc'
        have v1 := (g.lk.2.2.2.2.2.2.2.1 c hc').2
        have p36 := g.p36 hc'
        rw [if_neg (show ¬ bI true = 0 from by decide), if_pos rfl, g_kd g hc', bd1_s]
        by_cases e3 : lKd Λ c = 3
        · have e3' : decide (lKd Λ c = 3) = true := decide_eq_true e3
          rw [if_pos (neq li_3 (kdN_3.mpr e3)), e3', g_vl g hc', bd1_s]
          by_cases ev : lVl Λ c = v
          · have ev' : decide (lVl Λ c = v) = true := decide_eq_true ev
            rw [if_pos (by rw [ev]), ev', g_pl g hc', bd1_s]
            by_cases e : sP s c = 36
            · have e' : decide (sP s c ≠ 36) = false := decide_eq_false (fun z => z e)
              rw [if_neg (fun z => (plI_ge p36).mp z e), e', a1]
              exact ih (c + 1) j true (by omega) (by omega)
            · have e' : decide (sP s c ≠ 36) = true := decide_eq_true e
              rw [if_pos ((plI_ge p36).mpr e), e', a1]
              exact ih (c + 1) j false (by omega) (by omega)
          · have ev' : decide (lVl Λ c = v) = false := decide_eq_false ev
            rw [if_neg (fun z => ev ((nI_inj (by omega) (by omega)).mp z)), ev', a1]
            exact ih (c + 1) j true (by omega) (by omega)
        · have e3' : decide (lKd Λ c = 3) = false := decide_eq_false e3
          rw [if_neg (nne li_3 (by omega) (by omega) (fun z => e3 (kdN_3.mp z))), e3', a1]
          exact ih (c + 1) j true (by omega) (by omega)
    · rw [if_pos ((nI_leI (by omega) (by omega)).mpr (by omega)), if_neg hc']
/-- a beast, behind its worth -/
theorem la_beast (g : GC D σ Λ s h) (l : LX σ Λ) (y140 : Int32 → Int32 → Int32 → Int32 → Int32 → Int32 → Sg → Option Int32) (x2 x3 x4 x5 x6 : Int32) {b : Nat} (hb : b < lNb Λ) : J_L_agrees_b247 y140 x2 x3 x4 x6 (nI b) (nI (kdN Λ s b)) (plI (sP s b)) (nI (lVl Λ b)) (nI (onF s b)) x5 σ = y140 x2 x3 x4 (x5 + nI (onF s b)) (if lKd Λ b = 3 ∧ havB Λ s (lVl Λ b) 9 0 = false then x6 ||| ((1 : Int32) <<< (nI (lVl Λ b) &&& 31)) else x6) (nI (b + 1)) σ := by
  have n8 := g.nb
  have k3 := kdN_le (s := s) g.lk hb
  obtain ⟨kd3, v1⟩ := g.lk.2.2.2.2.2.2.2.1 b hb
  have p36 := g.p36 hb
  have hu := g.sk.2.2.2.1 b hb
  have sq := g.lk.sq
  have a1 : nI b + (1 : Int32) = nI (b + 1) := by rw [li_1, nI_add]
  have i13 : (13 : Int32) + nI b = nI (13 + b) := by rw [show (13 : Int32) = nI 13 from rfl, nI_add]
  have ib : inb (nI (13 + b)) 22 = true := (inb_nI (by omega)).mpr (by omega)
  -- behind the kind
  have c312 : ∀ x5, J_L_agrees_b312 y140 x2 x3 x4 x5 x6 (nI b) (nI (kdN Λ s b)) (nI (lVl Λ b)) σ = y140 x2 x3 x4 x5 (if lKd Λ b = 3 ∧ havB Λ s (lVl Λ b) 9 0 = false then x6 ||| ((1 : Int32) <<< (nI (lVl Λ b) &&& 31)) else x6) (nI (b + 1)) σ := by
    intro x5
    unfold J_L_agrees_b312
    rw [g_hu g hb, bd1_s, if_pos (nI_ge0 (by omega))]
    by_cases e3 : lKd Λ b = 3
    · rw [if_pos (neq li_3 (kdN_3.mpr e3)), show J_L_agrees_b340 y140 FU x2 x3 x4 x5 x6 (nI b) (nI (lVl Λ b)) 1 0 σ = _ from la_none g l y140 x2 x3 x4 x5 x6 (nI b) v1 9 0 FU true rfl (by rw [FU_eq]; omega), nonK_hav]
      unfold J_L_agrees_b399
      rw [a1]
      cases hh : havB Λ s (lVl Λ b) 9 0
      · rw [if_neg (show ¬ bI (true && !false) = 0 from by decide), if_pos ⟨e3, rfl⟩]
      · rw [if_pos (show bI (true && !true) = 0 from by decide), if_neg (fun z => by cases z.2), or0]
    · rw [if_neg (nne li_3 (by omega) (by omega) (fun z => e3 (kdN_3.mp z))), show J_L_agrees_b340 y140 FU x2 x3 x4 x5 x6 (nI b) (nI (lVl Λ b)) 0 0 σ = _ from la_none g l y140 x2 x3 x4 x5 x6 (nI b) v1 9 0 FU false rfl (by rw [FU_eq]; omega), nonK_hav, if_neg (fun z => e3 z.1)]
      unfold J_L_agrees_b399
      rw [a1, if_pos (show bI (false && !havB Λ s (lVl Λ b) 9 0) = 0 from by cases havB Λ s (lVl Λ b) 9 0 <;> rfl), or0]
  have c279 : ∀ x5, J_L_agrees_b279 y140 x2 x3 x4 x5 x6 (nI b) (nI (kdN Λ s b)) (plI (sP s b)) (nI (lVl Λ b)) σ = y140 x2 x3 x4 x5 (if lKd Λ b = 3 ∧ havB Λ s (lVl Λ b) 9 0 = false then x6 ||| ((1 : Int32) <<< (nI (lVl Λ b) &&& 31)) else x6) (nI (b + 1)) σ := by
    intro x5
    unfold J_L_agrees_b279
    by_cases e : sP s b = 36
    · rw [if_pos ((plI_lt0 (by omega)).mpr e), c312]
    · have lt : sP s b < lSq Λ := by rcases g.sk.2.1 b hb with z | z; exact absurd z e; exact z.1
      rw [if_neg (fun z => e ((plI_lt0 (by omega)).mp z)), plI_of e, g_sq1 g lt, bd1_s, onN_of g.lk g.sk hb e]
      unfold onI
      rw [if_neg (show ¬ b = 8 by omega), if_pos rfl, g_hu g hb, bd1_s, g_c9 g, bd1_s, if_neg (fun z => by have := (nI_ltI (by have := g.lk.2.2.2.1; omega) (by omega)).mp z; have := hu.2 e; omega), c312]
  unfold J_L_agrees_b247
  rw [i13, if_pos ib, nI_clamp (n := 13 + b) (by omega), l.2.2.2.2.1 b hb]
  by_cases ek : kdN Λ s b = lKd Λ b
  · rw [if_pos (by rw [ek]), c279]
  · have e2 : lKd Λ b = 2 ∧ kdN Λ s b = 1 := by
      unfold kdN at ek ⊢
      by_cases z : lKd Λ b = 2 ∧ (sE s).testBit b = true
      · rw [if_pos z]; exact ⟨z.1, rfl⟩
      · rw [if_neg z] at ek; exact absurd rfl ek
    rw [if_neg (fun z => ek ((nI_inj (by omega) (by omega)).mp z)), if_pos ib, if_pos (neq li_2 e2.1), if_pos (neq li_1 e2.2), c279]
theorem la_206 (g : GC D σ Λ s h) (l : LX σ Λ) (y140 : Int32 → Int32 → Int32 → Int32 → Int32 → Int32 → Sg → Option Int32) (x2 x3 x4 x5 x6 : Int32) {b : Nat} (hb : b < lNb Λ) (w : Int32) : J_L_agrees_b206 y140 x2 x3 x4 x5 x6 (nI b) (nI (kdN Λ s b)) (plI (sP s b)) (nI (lVl Λ b)) w σ = y140 x2 x3 (if sP s b = 36 then x4 else if lVl Λ b = 0 then x4 + w else x4 + -w) (x5 + nI (onF s b)) (if lKd Λ b = 3 ∧ havB Λ s (lVl Λ b) 9 0 = false then x6 ||| ((1 : Int32) <<< (nI (lVl Λ b) &&& 31)) else x6) (nI (b + 1)) σ := by
  have p36 := g.p36 hb
  have v1 := (g.lk.2.2.2.2.2.2.2.1 b hb).2
  unfold J_L_agrees_b206
  by_cases e : sP s b = 36
  · have f0 : onF s b = 0 := if_pos e
    have r := la_beast g l y140 x2 x3 x4 x5 x6 hb
    rw [f0] at r
    rw [if_neg (fun z => (plI_ge p36).mp z e), if_neg (fun z => (plI_ge p36).mp z e), if_pos e, ad0, f0]
    exact r
  · have f1 : onF s b = 1 := if_neg e
    rw [if_pos ((plI_ge p36).mpr e), if_pos ((plI_ge p36).mpr e), if_pos ((plI_ge p36).mpr e), if_neg e, f1]
    by_cases v : lVl Λ b = 0
    · have r := la_beast g l y140 x2 x3 (x4 + w) x5 x6 hb
      rw [f1] at r
      rw [if_pos (neq li_0 v), if_pos v]
      exact r
    · have r := la_beast g l y140 x2 x3 (x4 + -w) x5 x6 hb
      rw [f1] at r
      rw [if_neg (nne li_0 (by omega) (by omega) v), if_neg v]
      exact r
theorem la_loop (g : GC D σ Λ s h) (l : LX σ Λ) : ∀ (k b j : Nat) (W L : Int32), b + k = 9 → 9 < b + j → worK Λ s k b W = worI Λ s + 100 → lawL Λ s k b L = lostI Λ s → b ≤ lNb Λ → J_L_agrees_b140 j (allI Λ s) (nI (onS Λ s)) W (nI (suN (onF s) b)) L (nI b) σ = some 1 := by
  have n8 := g.nb
  have o8 := onS_le (s := s) g.lk
  have fin : ∀ (b j : Nat) (W L : Int32), b = lNb Λ → W = worI Λ s + 100 → L = lostI Λ s → J_L_agrees_b140 (j + 1) (allI Λ s) (nI (onS Λ s)) W (nI (suN (onF s) b)) L (nI b) σ = some 1 := by
    intro b j W L hb hW hL
    rw [J_L_agrees_b140, l.2.2.1, if_pos (by rw [hb]; exact Int32.le_refl _), g_c8 g, bd1_s, if_pos rfl, if_pos (by rw [hb]; rfl), g_c4 g, bd1_s, g_c5 g, bd1_s, nI_add, sta_on g.lk, if_pos (by rw [hb]; rfl), g_c6 g, bd1_s, if_pos hW, g_c7 g, bd1_s, if_pos hL]
  intro k
  induction k with
  | zero =>
    intro b j W L hb hj hW hL hle
    omega
  | succ k ih =>
    intro b j W L hb hj hW hL hle
    obtain ⟨j, rfl⟩ : ∃ i, j = i + 1 := ⟨j - 1, by omega⟩
    unfold worK at hW
    unfold lawL at hL
    by_cases hb' : b < lNb Λ
    · have k3 := kdN_le (s := s) g.lk hb'
      rw [if_pos hb'] at hW hL
      have r := fun W' (hW' : W' = _) => ih (b + 1) j W' _ (by omega) (by omega) (by rw [hW']; exact hW) hL (by omega)
      have su : nI (suN (onF s) b) + nI (onF s b) = nI (suN (onF s) (b + 1)) := by rw [nI_add]; rfl
      rw [J_L_agrees_b140, l.2.2.1, if_neg (fun z => by have := (nI_leI (by omega) (by omega)).mp z; omega), g_kd g hb', bd1_s, g_pl g hb', bd1_s, g_vl g hb', bd1_s]
      rcases (show kdN Λ s b = 0 ∨ kdN Λ s b = 1 ∨ kdN Λ s b = 2 ∨ kdN Λ s b = 3 by omega) with e | e | e | e
      · rw [if_pos (neq li_0 e), la_206 g l _ _ _ _ _ _ hb' 5, su]
        exact r _ (by rw [e]; rfl)
      · rw [if_neg (nne li_0 (by omega) (by omega) (by omega)), if_pos (neq li_1 e), la_206 g l _ _ _ _ _ _ hb' 3, su]
        exact r _ (by rw [e]; rfl)
      · rw [if_neg (nne li_0 (by omega) (by omega) (by omega)), if_neg (nne li_1 (by omega) (by omega) (by omega)), if_pos (neq li_2 e), la_206 g l _ _ _ _ _ _ hb' 1, su]
        exact r _ (by rw [e]; rfl)
      · rw [if_neg (nne li_0 (by omega) (by omega) (by omega)), if_neg (nne li_1 (by omega) (by omega) (by omega)), if_neg (nne li_2 (by omega) (by omega) (by omega)), la_206 g l _ _ _ _ _ _ hb' 20, su]
        exact r _ (by rw [e]; rfl)
    · rw [if_neg hb'] at hW hL
      exact fin b j W L (by omega) hW hL
theorem la_sq (g : GC D σ Λ s h) (l : LX σ Λ) : ∀ (k x j : Nat) (G : Int32), x + k = 37 → 37 < x + j → x ≤ lSq Λ → allK Λ s k x G = allI Λ s → J_L_agrees_b7 j G (nI (suN (occF Λ s) x)) (nI x) σ = some 1 := by
  have sq := g.lk.sq
  intro k
  induction k with
  | zero => intro x j G hx hj hle; omega
  | succ k ih =>
    intro x j G hx hj hle hG
    obtain ⟨j, rfl⟩ : ∃ i, j = i + 1 := ⟨j - 1, by omega⟩
    unfold allK at hG
    by_cases hx' : x < lSq Λ
    · rw [if_pos hx'] at hG
      have r := ih (x + 1) j _ (by omega) (by omega) (by omega) hG
      have a1 : nI x + (1 : Int32) = nI (x + 1) := by rw [li_1, nI_add]
      have su : nI (suN (occF Λ s) x) + nI (occF Λ s x) = nI (suN (occF Λ s) (x + 1)) := by rw [nI_add]; rfl
      have g8 := g.sk.1 x hx'
      have o8 : onN Λ s x ≤ 8 := by have := g.nb; rcases onN_cases (s := s) g.nb.2 x with z | z <;> omega
      rw [J_L_agrees_b7, l.1, if_neg (fun z => by have := (nI_leI (by omega) (by omega)).mp z; omega), g_sq1 g hx', bd1_s, g_sq0 g hx', bd1_s]
      have bog := l.2.2.2.2.2 x hx'
      -- who is there
      have c57 : ∀ (v : Nat) (t : Bool), v ≤ 9 → (v = 9 ↔ t = true) → t = decide (lM Λ x = 9) → J_L_agrees_b57 (fun x2 x3 x4 σ => J_L_agrees_b7 j x2 x3 x4 σ) G (nI (suN (occF Λ s) x)) (nI x) (onI (onN Λ s x)) (nI v) (bI t) σ = J_L_agrees_b7 j (G + (if v = 9 then 0 else nI v)) (nI (suN (occF Λ s) (x + 1))) (nI (x + 1)) σ := by
        intro v t hv hvt ht
        unfold J_L_agrees_b57
        rw [bog, bd1_s, if_pos (by rw [ht])]
        by_cases e : onN Λ s x = 8
        · have o0 : occF Λ s x = 0 := if_pos e
          rw [o0] at su
          rw [if_pos ((onI_lt o8).mpr e)]
          unfold J_L_agrees_b106
          rw [if_pos ((onI_lt o8).mpr e), if_pos ((onI_lt o8).mpr e), a1, show nI (suN (occF Λ s) x) + (0 : Int32) = _ from su]
          by_cases e9 : v = 9
          · rw [if_pos (neq li_9 e9), if_pos e9]
          · rw [if_neg (nne li_9 (by omega) (by omega) e9), if_neg e9]
        · have o1 : occF Λ s x = 1 := if_neg e
          rw [o1] at su
          rcases onN_spec Λ s x g.nb.2 with ⟨z, -⟩ | ⟨w1, w2⟩
          · exact absurd z e
          have m9 : lM Λ x ≠ 9 := by
            rcases g.sk.2.1 _ w1 with z | z
            · omega
            · rw [w2] at z; exact z.2
          have v9 : v ≠ 9 := fun z => by
            have := hvt.mp z
            rw [ht] at this
            exact m9 (of_decide_eq_true this)
          have oi : onI (onN Λ s x) = nI (onN Λ s x) := if_neg e
          rw [if_neg (fun z => e ((onI_lt o8).mp z)), if_neg (nne li_9 (by omega) (by omega) v9), oi, g_pl g w1, bd1_s, w2, plI_of (by omega), if_pos rfl, if_neg (nne li_9 (by omega) (by omega) v9), if_neg v9]
          unfold J_L_agrees_b106
          rw [if_neg (nI_nlt0 (by omega)), a1, show nI (suN (occF Λ s) x) + (1 : Int32) = _ from su]
      by_cases m9 : lM Λ x = 9
      · rw [if_pos m9] at hG ⊢
        rw [if_pos m9] at r
        rw [if_neg (show ¬ nI 9 < 0 from by decide), if_neg (show ¬ (9 : Int32) < nI 9 from by decide), if_pos (show nI 9 = (9 : Int32) from rfl), show J_L_agrees_b57 _ G (nI (suN (occF Λ s) x)) (nI x) (onI (onN Λ s x)) (nI 9) 1 σ = _ from c57 9 true (by omega) ⟨fun _ => rfl, fun _ => rfl⟩ (decide_eq_true m9).symm, if_pos rfl, ad0]
        exact r
      · rw [if_neg m9] at hG r ⊢
        rw [if_neg (nI_nlt0 (by omega)), if_neg (show ¬ (9 : Int32) < nI (sG s x) from by rw [li_9, nI_ltI (by omega) (by omega)]; omega), if_neg (nne li_9 (by omega) (by omega) (by omega)), show J_L_agrees_b57 _ G (nI (suN (occF Λ s) x)) (nI x) (onI (onN Λ s x)) (nI (sG s x)) 0 σ = _ from c57 (sG s x) false (by omega) ⟨fun z => by omega, fun z => by cases z⟩ (decide_eq_false m9).symm, if_neg (by omega)]
        exact r
    · rw [if_neg hx'] at hG
      have e : x = lSq Λ := by omega
      rw [J_L_agrees_b7, l.1, if_pos (by rw [e]; exact Int32.le_refl _), hG, e, occ_on g.lk g.sk]
      exact la_loop g l 9 0 FU 100 0 rfl (by rw [FU_eq]; omega) wor_100 (lawL_lost g.lk) (Nat.zero_le _)
theorem la_agrees (g : GC D σ Λ s h) (l : LX σ Λ) : J_L_agrees σ = some 1 := by
  unfold J_L_agrees
  exact la_sq g l 37 0 FU 0 rfl (by rw [FU_eq]; omega) (Nat.zero_le _) rfl
end AGR
