/-! a meadow by cells, told as a text: the rows -/
/-- what stays of the class while the text is written -/
def KF (σ σ' : Sg) : Prop := ∀ a, a ≠ 4 → a ≠ 5 → a ≠ 141 → a ≠ 142 → σ' a = σ a
theorem KF.rf {σ : Sg} : KF σ σ := fun _ _ _ _ _ => rfl
theorem KF.tr {σ σ' σ'' : Sg} (h : KF σ σ') (h' : KF σ' σ'') : KF σ σ'' := fun a h1 h2 h3 h4 => (h' a h1 h2 h3 h4).trans (h a h1 h2 h3 h4)
theorem Fw.kf {σ σ' : Sg} (h : Fw σ σ') : KF σ σ' := fun a h1 h2 _ _ => h a h1 h2
theorem KF.m {σ σ' : Sg} {k : Nat} {v : Int32} (h : KF σ σ') : KF σ (up σ' 141 k v) := fun a h1 h2 h3 h4 => by rw [up_ne h3]; exact h a h1 h2 h3 h4
theorem KF.e {σ σ' : Sg} {k : Nat} {v : Int32} (h : KF σ σ') : KF σ (up σ' 142 k v) := fun a h1 h2 h3 h4 => by rw [up_ne h4]; exact h a h1 h2 h3 h4
theorem TXT.m {σ : Sg} {l : List Nat} {k : Nat} {v : Int32} (h : TXT σ l) : TXT (up σ 141 k v) l := h.fr (up_ne (by decide)) (up_ne (by decide))
theorem TXT.e {σ : Sg} {l : List Nat} {k : Nat} {v : Int32} (h : TXT σ l) : TXT (up σ 142 k v) l := h.fr (up_ne (by decide)) (up_ne (by decide))
section MAK
variable {Ln : Nat} {xs : Nat → Int32}
theorem mk_24 (x2 x3 x6 x7 : Int32) : ∀ (k i j : Nat) (σ : Sg), i + k = 22 → k < j → ∃ σ', J_L_make_b24 Ln xs j x2 x3 x6 x7 (nI i) σ = J_L_make_b46 Ln xs FU x2 x3 x6 x7 0 σ' ∧ (∀ m, i ≤ m → m < 22 → σ' 141 m = nI 0) ∧ (∀ m, m < i → σ' 141 m = σ 141 m) ∧ ∀ a, a ≠ 141 → σ' a = σ a := by
  intro k
  induction k with
  | zero =>
    intro i j σ hi hj
    obtain ⟨j, rfl⟩ : ∃ i, j = i + 1 := ⟨j - 1, by omega⟩
    refine ⟨σ, ?_, fun m h1 h2 => by omega, fun _ _ => rfl, fun _ _ => rfl⟩
    rw [J_L_make_b24, if_pos (show (22 : Int32) ≤ nI i from by rw [show (22 : Int32) = nI 22 from rfl, nI_leI (by omega) (by omega)]; omega)]
  | succ k ih =>
    intro i j σ hi hj
    obtain ⟨j, rfl⟩ : ∃ i, j = i + 1 := ⟨j - 1, by omega⟩
    obtain ⟨σ1, r1, r2, r3, r4⟩ := ih (i + 1) j (up σ 141 i 0) (by omega) (by omega)
    refine ⟨σ1, ?_, fun m h1 h2 => ?_, fun m h1 => ?_, fun a ha => by rw [r4 a ha, up_ne ha]⟩
    · rw [J_L_make_b24, if_neg (show ¬ (22 : Int32) ≤ nI i from by rw [show (22 : Int32) = nI 22 from rfl, nI_leI (by omega) (by omega)]; omega), if_pos ((inb_nI (by omega)).mpr (by omega)), nI_clamp (by omega), show nI i + (1 : Int32) = nI (i + 1) from by rw [li_1, nI_add]]
      exact r1
    · by_cases e : m = i
      · rw [e, r3 i (by omega), up_s]; rfl
      · exact r2 m (by omega) h2
    · rw [r3 m (by omega), up_i (by omega)]
theorem mk_46 (x2 x3 x6 x7 : Int32) : ∀ (k i j : Nat) (σ : Sg), i + k = 54 → k < j → ∃ σ', J_L_make_b46 Ln xs j x2 x3 x6 x7 (nI i) σ = (bd1 (J_L_low x6 x3 σ') fun r88 => (bd1 (J_L_low (x6 >>> ((3 : Int32) &&& 31)) x3 σ') fun r103 => (J_L_make_b133 Ln xs FU x2 x6 x7 ((1 : Int32) + r88) (0 : Int32) (up (up (up (up σ' 141 1 ((1 : Int32) + r103)) 141 0 (((1 : Int32) + r88) * ((up σ' 141 1 ((1 : Int32) + r103)) 141 1))) 141 3 (-4 : Int32)) 141 4 (4 : Int32))))) ∧ ∀ a, a ≠ 142 → σ' a = σ a := by
  intro k
  induction k with
  | zero =>
    intro i j σ hi hj
    obtain ⟨j, rfl⟩ : ∃ i, j = i + 1 := ⟨j - 1, by omega⟩
    refine ⟨σ, ?_, fun _ _ => rfl⟩
    rw [J_L_make_b46, if_pos (show (54 : Int32) ≤ nI i from by rw [li_54, nI_leI (by omega) (by omega)]; omega)]
  | succ k ih =>
    intro i j σ hi hj
    obtain ⟨j, rfl⟩ : ∃ i, j = i + 1 := ⟨j - 1, by omega⟩
    have a1 : nI i + (1 : Int32) = nI (i + 1) := by rw [li_1, nI_add]
    have ib : inb (nI i) 54 = true := (inb_nI (by omega)).mpr (by omega)
    have st : ∀ v, ∃ σ', J_L_make_b46 Ln xs j x2 x3 x6 x7 (nI (i + 1)) (up σ 142 i v) = (bd1 (J_L_low x6 x3 σ') fun r88 => (bd1 (J_L_low (x6 >>> ((3 : Int32) &&& 31)) x3 σ') fun r103 => (J_L_make_b133 Ln xs FU x2 x6 x7 ((1 : Int32) + r88) (0 : Int32) (up (up (up (up σ' 141 1 ((1 : Int32) + r103)) 141 0 (((1 : Int32) + r88) * ((up σ' 141 1 ((1 : Int32) + r103)) 141 1))) 141 3 (-4 : Int32)) 141 4 (4 : Int32))))) ∧ ∀ a, a ≠ 142 → σ' a = σ a := by
      intro v
      obtain ⟨σ1, r1, r2⟩ := ih (i + 1) j (up σ 142 i v) (by omega) (by omega)
      exact ⟨σ1, r1, fun a ha => by rw [r2 a ha, up_ne ha]⟩
    rw [J_L_make_b46, if_neg (show ¬ (54 : Int32) ≤ nI i from by rw [li_54, nI_leI (by omega) (by omega)]; omega), if_pos ib, nI_clamp (by omega), a1]
    by_cases c : nI i ≤ (36 : Int32)
    · rw [if_pos c]
      exact st _
    · rw [if_neg c]
      by_cases c2 : (45 : Int32) ≤ nI i
      · rw [if_pos c2]
        exact st _
      · rw [if_neg c2, if_pos ib]
        exact st _
/-- a row's bogs as bits -/
def RB (σ : Sg) (w i : Nat) (ds : List Nat) (c : Nat) : Prop := ∃ E, σ 141 (7 + i) = nI E ∧ E < 2 ^ c ∧ ∀ j, j < c → E.testBit j = decide (ds.getD j 0 = 9)
theorem v19 : ∀ v, v < 32 → ((14 : Int32) ≤ nI v ↔ 14 ≤ v) ∧ ((28 : Int32) ≤ nI v ↔ 28 ≤ v) ∧ ((0 : Int32) ≤ nI v - 19 ↔ 19 ≤ v) := by decide +kernel
theorem pow256 {c : Nat} (h : c ≤ 5) : 2 ^ c ≤ 32 := Nat.pow_le_pow_right (by decide) h
/-- one square of a row -/
theorem mk_249 (y133 : Int32 → Int32 → Int32 → Int32 → Int32 → Sg → Option (Int32 × Sg)) (y176 : Int32 → Int32 → Int32 → Int32 → Int32 → Int32 → Int32 → Sg → Option (Int32 × Sg)) (x2 x6 x8 x10 : Int32) {σ : Sg} {w i c d : Nat} {l ds : List Nat} (hi : i < 5) (hc : c < w) (hw : w ≤ 5) (hd : d ≤ 9) (hl : l.length + ds.length < 190) (hds : ds.length = c) (t : TXT σ (l ++ (114 :: ds.map (48 + ·)))) (m1 : σ 141 1 = nI w) (b : RB σ w i ds c) : ∃ σ', J_L_make_b249 Ln xs y133 y176 x2 x6 1 x8 (nI i) x10 (nI c) (nI d) σ = y176 x2 x6 1 x8 (nI i) x10 (nI (c + 1)) σ' ∧ TXT σ' (l ++ (114 :: (ds ++ [d]).map (48 + ·))) ∧ RB σ' w i (ds ++ [d]) (c + 1) ∧ (∀ m, m ≠ 7 + i → σ' 141 m = σ 141 m) ∧ KF σ σ' := by
  obtain ⟨E, e1, e2, e3⟩ := b
  have p32 := pow256 (show c ≤ 5 by omega)
  have p64 : 2 ^ (c + 1) ≤ 64 := Nat.pow_le_pow_right (by decide) (show c + 1 ≤ 6 by omega)
  have ib : inb (nI (7 + i)) 22 = true := (inb_nI (by omega)).mpr (by omega)
  have i7 : (7 : Int32) + nI i = nI (7 + i) := by rw [show (7 : Int32) = nI 7 from rfl, nI_add]
  have a1 : nI c + (1 : Int32) = nI (c + 1) := by rw [li_1, nI_add]
  have len : (l ++ (114 :: ds.map (48 + ·))).length = l.length + 1 + ds.length := by
    rw [List.length_append, List.length_cons, List.length_map]
    omega
  have txt : l ++ (114 :: (ds ++ [d]).map (48 + ·)) = (l ++ (114 :: ds.map (48 + ·))) ++ [48 + d] := by simp
  have gd : ∀ j, (ds ++ [d]).getD j 0 = if j = c then d else ds.getD j 0 := by
    intro j
    by_cases ej : j = c
    · rw [if_pos ej, ej, ← hds]
      have := getD_r (l := ds) (m := [d]) (i := 0)
      rw [Nat.add_zero] at this
      rw [this]
      rfl
    · rw [if_neg ej]
      by_cases lt : j < ds.length
      · rw [getD_l lt]
      · rw [List.getD_eq_getElem?_getD, List.getD_eq_getElem?_getD, List.getElem?_eq_none (by rw [List.length_append, List.length_singleton]; omega), List.getElem?_eq_none (by omega)]
  -- the letter
  have c300 : ∀ (σ0 : Sg) (v : Int32), TXT σ0 (l ++ (114 :: ds.map (48 + ·))) → ∃ σ', J_L_make_b300 Ln xs y133 y176 x2 x6 1 x8 (nI i) x10 (nI c) (nI d) v (nI (1 + i * w + c)) σ0 = y176 x2 x6 1 x8 (nI i) x10 (nI (c + 1)) σ' ∧ TXT σ' (l ++ (114 :: (ds ++ [d]).map (48 + ·))) ∧ σ' 141 = σ0 141 ∧ KF σ0 σ' := by
    intro σ0 v t0
    have iw : i * w ≤ 4 * 5 := Nat.mul_le_mul (by omega) hw
    obtain ⟨σ1, r1, r2, r3⟩ := w_let (c := 48 + d) (t0.e (k := 1 + i * w + c) (v := v)) (by rw [len]; omega) (by omega) (by omega)
    refine ⟨σ1, ?_, by rw [txt]; exact r2, by rw [r3 141 (by decide) (by decide), up_ne (by decide)], (KF.rf.e).tr r3.kf⟩
    unfold J_L_make_b300
    rw [if_pos ((inb_nI (by omega)).mpr (by omega)), if_neg (by decide), nI_clamp (n := 1 + i * w + c) (by omega), show (48 : Int32) + nI d = nI (48 + d) from by rw [show (48 : Int32) = nI 48 from rfl, nI_add], r1, bd2_s, if_neg (nI_nle (by omega) (by rw [len]; omega)), a1]
  have c273 : ∀ (σ0 : Sg), TXT σ0 (l ++ (114 :: ds.map (48 + ·))) → σ0 141 1 = nI w → ∃ σ', J_L_make_b273 Ln xs y133 y176 x2 x6 1 x8 (nI i) x10 (nI c) (nI d) σ0 = y176 x2 x6 1 x8 (nI i) x10 (nI (c + 1)) σ' ∧ TXT σ' (l ++ (114 :: (ds ++ [d]).map (48 + ·))) ∧ σ' 141 = σ0 141 ∧ KF σ0 σ' := by
    intro σ0 t0 m0
    unfold J_L_make_b273
    have ix : ((1 : Int32) + (nI i * (σ0 141 1))) + nI c = nI (1 + i * w + c) := by rw [m0, nI_mul, li_1, nI_add, nI_add]
    rw [ix]
    by_cases c9 : nI d = (9 : Int32)
    · rw [if_pos c9]; exact c300 σ0 0 t0
    · rw [if_neg c9]; exact c300 σ0 (nI d) t0
  unfold J_L_make_b249
  by_cases d9 : d = 9
  · rw [if_pos (neq li_9 d9), i7, if_pos ib, if_pos ib, nI_clamp (n := 7 + i) (by omega), e1, or_nI E (by omega) c (by omega)]
    obtain ⟨σ1, r1, r2, r3, r4⟩ := c273 (up σ 141 (7 + i) (nI (E ||| 2 ^ c))) t.m (by rw [up_i (by omega)]; exact m1)
    refine ⟨σ1, r1, r2, ⟨E ||| 2 ^ c, by rw [r3, up_s], Nat.or_lt_two_pow (Nat.lt_of_lt_of_le e2 (Nat.pow_le_pow_right (by decide) (by omega))) (Nat.pow_lt_pow_right (by decide) (by omega)), fun j hj => ?_⟩, fun m hm => by rw [r3, up_i hm], (KF.rf.m).tr r4⟩
    rw [Nat.testBit_or, Nat.testBit_two_pow, gd]
    by_cases ej : j = c
    · rw [if_pos ej, ej, d9]
      simp
    · rw [if_neg ej, e3 j (by omega), decide_eq_false (show ¬ c = j from fun z => ej z.symm), Bool.or_false]
  · rw [if_neg (nne li_9 (by omega) (by omega) d9)]
    obtain ⟨σ1, r1, r2, r3, r4⟩ := c273 σ t m1
    refine ⟨σ1, r1, r2, ⟨E, by rw [r3]; exact e1, Nat.lt_of_lt_of_le e2 (Nat.pow_le_pow_right (by decide) (by omega)), fun j hj => ?_⟩, fun m _ => by rw [r3], r4⟩
    rw [gd]
    by_cases ej : j = c
    · rw [if_pos ej, ej, decide_eq_false d9]
      exact Nat.testBit_lt_two_pow e2
    · rw [if_neg ej]
      exact e3 j (by omega)
/-- the squares of a row -/
theorem mk_176 (y133 : Int32 → Int32 → Int32 → Int32 → Int32 → Sg → Option (Int32 × Sg)) (x2 x6 x8 y : Int32) {w i : Nat} {l : List Nat} (hi : i < 5) (hw : w ≤ 5) (hl : l.length < 180) : ∀ (k c j : Nat) (σ : Sg) (ds : List Nat), c + k = w → k < j → ds.length = c → (∀ d ∈ ds, d ≤ 9) → (i = 0 → ds.getD 0 0 ≠ 9) → TXT σ (l ++ (114 :: ds.map (48 + ·))) → σ 141 1 = nI w → RB σ w i ds c → ∃ σ' ds', J_L_make_b176 Ln xs y133 j x2 x6 1 x8 (nI i) y (nI c) σ = y133 x2 x6 1 x8 (nI (i + 1)) σ' ∧ ds'.length = w ∧ (∀ d ∈ ds', d ≤ 9) ∧ (i = 0 → ds'.getD 0 0 ≠ 9) ∧ TXT σ' (l ++ (114 :: (ds'.map (48 + ·) ++ [59]))) ∧ RB σ' w i ds' w ∧ (∀ m, m ≠ 7 + i → σ' 141 m = σ 141 m) ∧ KF σ σ' := by
  intro k
  induction k with
  | zero =>
    intro c j σ ds hc hj h1 h2 h3 h4 h5 h6
    obtain ⟨j, rfl⟩ : ∃ i, j = i + 1 := ⟨j - 1, by omega⟩
    have ec : c = w := by omega
    have len : (l ++ (114 :: ds.map (48 + ·))).length = l.length + 1 + ds.length := by
      rw [List.length_append, List.length_cons, List.length_map]
      omega
    obtain ⟨σ1, r1, r2, r3⟩ := w_let (c := 59) h4 (by rw [len]; omega) (by decide) (by decide)
    refine ⟨σ1, ds, ?_, by omega, h2, h3, ?_, ?_, fun m _ => by rw [r3 141 (by decide) (by decide)], r3.kf⟩
    · rw [J_L_make_b176, h5, ec, if_pos (Int32.le_refl _), if_neg (by decide), show J_X7_write 59 σ = _ from r1, bd2_s, if_neg (nI_nle (by omega) (by rw [len]; omega)), show nI i + (1 : Int32) = nI (i + 1) from by rw [li_1, nI_add]]
    · have e2 : l ++ (114 :: (ds.map (48 + ·) ++ [59])) = (l ++ (114 :: ds.map (48 + ·))) ++ [59] := by simp
      rw [e2]
      exact r2
    · obtain ⟨E, e1, e2, e3⟩ := h6
      rw [ec] at e2 e3
      exact ⟨E, by rw [r3 141 (by decide) (by decide)]; exact e1, e2, e3⟩
  | succ k ih =>
    intro c j σ ds hc hj h1 h2 h3 h4 h5 h6
    obtain ⟨j, rfl⟩ : ∃ i, j = i + 1 := ⟨j - 1, by omega⟩
    obtain ⟨v, v1, v2⟩ := and_nI (y >>> (((5 : Int32) * nI c) &&& 31)) (m := 31) (by decide)
    have v2' : ((y >>> (((5 : Int32) * nI c) &&& 31)) &&& (31 : Int32)) = nI v := v2
    obtain ⟨b1, b2, b3⟩ := v19 v (by omega)
    have step : ∀ d, d ≤ 9 → (i + c = 0 → d ≠ 9) → ∃ σ' ds', J_L_make_b249 Ln xs y133 (fun x2 x6 x7 x8 x9 x10 x11 σ => J_L_make_b176 Ln xs y133 j x2 x6 x7 x8 x9 x10 x11 σ) x2 x6 1 x8 (nI i) y (nI c) (nI d) σ = y133 x2 x6 1 x8 (nI (i + 1)) σ' ∧ ds'.length = w ∧ (∀ d ∈ ds', d ≤ 9) ∧ (i = 0 → ds'.getD 0 0 ≠ 9) ∧ TXT σ' (l ++ (114 :: (ds'.map (48 + ·) ++ [59]))) ∧ RB σ' w i ds' w ∧ (∀ m, m ≠ 7 + i → σ' 141 m = σ 141 m) ∧ KF σ σ' := by
      intro d d9 d0
      obtain ⟨σ1, r1, r2, r3, r4, r5⟩ := mk_249 (Ln := Ln) (xs := xs) y133 (fun x2 x6 x7 x8 x9 x10 x11 σ => J_L_make_b176 Ln xs y133 j x2 x6 x7 x8 x9 x10 x11 σ) x2 x6 x8 y hi (show c < w by omega) hw d9 (by omega) h1 h4 h5 h6
      obtain ⟨σ2, ds', t1, t2, t3, t4, t5, t6, t7, t8⟩ := ih (c + 1) j σ1 (ds ++ [d]) (by omega) (by omega) (by rw [List.length_append, List.length_singleton]; omega) (fun e he => by
        rcases List.mem_append.mp he with z | z
        · exact h2 e z
        · rw [List.mem_singleton.mp z]; exact d9) (fun i0 => by
        by_cases c0 : c = 0
        · have : ds = [] := List.length_eq_zero_iff.mp (by omega)
          rw [this]
          exact d0 (by omega)
        · rw [getD_l (by omega)]
          exact h3 i0) r2 (by rw [r4 1 (by omega)]; exact h5) r3
      exact ⟨σ2, ds', by rw [r1]; exact t1, t2, t3, t4, t5, t6, fun m hm => by rw [t7 m hm, r4 m hm], r5.tr t8⟩
    rw [J_L_make_b176, h5, if_neg (fun z => by have := (nI_leI (by omega) (by omega)).mp z; omega), v2']
    by_cases c14 : 14 ≤ v
    · rw [if_pos (b1.mpr c14)]
      by_cases c28 : 28 ≤ v
      · rw [if_pos (b2.mpr c28), nI_add]
        by_cases c0 : i + c = 0
        · rw [if_pos (neq li_0 c0)]
          exact step 0 (by decide) (fun _ => by decide)
        · rw [if_neg (nne li_0 (by omega) (by omega) c0)]
          exact step 9 (by decide) (fun z => absurd z c0)
      · rw [if_neg (fun z => c28 (b2.mp z))]
        by_cases c19 : 19 ≤ v
        · rw [if_pos (b3.mpr c19), show (19 : Int32) = nI 19 from rfl, nI_subI c19]
          exact step (v - 19) (by omega) (fun _ => by omega)
        · rw [if_neg (fun z => c19 (b3.mp z))]
          exact step 1 (by decide) (fun _ => by decide)
    · rw [if_neg (fun z => c14 (b1.mp z))]
      exact step 0 (by decide) (fun _ => by decide)
/-- the rows -/
def BR (σ : Sg) (w i : Nat) (G : Nat → Nat) : Prop := (∀ r, r < i → ∃ E, σ 141 (7 + r) = nI E ∧ E < 256 ∧ ∀ c, c < w → E.testBit c = decide (G (r * w + c) = 9)) ∧ ∀ r, i ≤ r → r < 6 → σ 141 (7 + r) = nI 0
theorem row_lt {r i w c : Nat} (h : r < i) (hc : c < w) : r * w + c < i * w := by
  have := Nat.mul_le_mul_right w (show r + 1 ≤ i by omega)
  rw [Nat.succ_mul] at this
  omega
theorem mk_133 (hL : Ln ≤ 260) (x6 : Int32) {w rows : Nat} {K X : Nat → Nat} (w1 : 1 ≤ w) (hw : w ≤ 5) (hr : rows ≤ 5) : ∀ (k i j : Nat) (σ : Sg) (l : List Nat) (G : Nat → Nat), i + k = rows → k < j → l.length ≤ 7 * i → TXT σ l → PR i l (RQ (i * w) w i 0 36 0 G K X) → σ 141 1 = nI w → BR σ w i G → (0 < i → G 0 ≠ 9) → ∃ σ' l' G', J_L_make_b133 Ln xs j 0 x6 1 (nI rows) (nI i) σ = (bd1 (J_L_low (x6 >>> ((6 : Int32) &&& 31)) (8 : Int32) σ') fun r366 => (J_L_make_b375 Ln xs FU 0 x6 1 ((1 : Int32) + r366) (0 : Int32) σ')) ∧ l'.length ≤ 7 * rows ∧ TXT σ' l' ∧ PR rows l' (RQ (rows * w) w rows 0 36 0 G' K X) ∧ BR σ' w rows G' ∧ (0 < rows → G' 0 ≠ 9) ∧ (∀ m, (m < 7 ∨ 12 < m) → σ' 141 m = σ 141 m) ∧ KF σ σ' := by
  intro k
  induction k with
  | zero =>
    intro i j σ l G hi hj h1 h2 h3 h4 h5 h6
    obtain ⟨j, rfl⟩ : ∃ i, j = i + 1 := ⟨j - 1, by omega⟩
    have ei : i = rows := by omega
    subst ei
    refine ⟨σ, l, G, ?_, h1, h2, h3, h5, h6, fun _ _ => rfl, KF.rf⟩
    rw [J_L_make_b133, if_pos (Int32.le_refl _)]
  | succ k ih =>
    intro i j σ l G hi hj h1 h2 h3 h4 h5 h6
    obtain ⟨j, rfl⟩ : ∃ i, j = i + 1 := ⟨j - 1, by omega⟩
    obtain ⟨σ1, r1, r2, r3⟩ := w_let (c := 114) h2 (by omega) (by decide) (by decide)
    have m1 : σ1 141 = σ 141 := r3 141 (by decide) (by decide)
    obtain ⟨y, hy⟩ := cell_ok (xs := xs) hL (k := 1 + i) (by omega)
    obtain ⟨σ2, ds, t1, t2, t3, t4, t5, t6, t7, t8⟩ := mk_176 (Ln := Ln) (xs := xs) (fun x2 x6 x7 x8 x9 σ => J_L_make_b133 Ln xs j x2 x6 x7 x8 x9 σ) 0 x6 (nI rows) y (w := w) (i := i) (l := l) (by omega) hw (by omega) w 0 FU σ1 [] (by omega) (by rw [FU_eq]; omega) rfl (fun d hd => absurd hd List.not_mem_nil) (fun _ => by decide) r2 (by rw [m1]; exact h4) ⟨0, by rw [m1]; exact h5.2 i (Nat.le_refl _) (by omega), Nat.pow_pos (by decide), fun j hj => absurd hj (Nat.not_lt_zero j)⟩
    have len : (l ++ (114 :: (ds.map (48 + ·) ++ [59]))).length ≤ 7 * (i + 1) := by
      simp only [List.length_append, List.length_cons, List.length_map, List.length_nil]
      omega
    have iw : (i + 1) * w = i * w + w := Nat.succ_mul i w
    have pr : PR (i + 1) (l ++ (114 :: (ds.map (48 + ·) ++ [59]))) (RQ ((i + 1) * w) w (i + 1) 0 36 0 (fun x => if x < i * w then G x else ds.getD (x - i * w) 0) K X) := by
      refine h3.step (by rw [List.length_cons]; omega) fun L t r s hr => ?_
      rw [iw]
      exact it_row hr (by omega) t2 w1 (by omega) t3 s
    have br : BR σ2 w (i + 1) (fun x => if x < i * w then G x else ds.getD (x - i * w) 0) := by
      refine ⟨fun r hr => ?_, fun r h7 h8 => ?_⟩
      · by_cases er : r = i
        · obtain ⟨E, q1, q2, q3⟩ := t6
          have p := pow256 hw
          refine ⟨E, by rw [er]; exact q1, by omega, fun c hc => ?_⟩
          rw [q3 c hc, er]
          show _ = decide ((if i * w + c < i * w then G (i * w + c) else ds.getD (i * w + c - i * w) 0) = 9)
          rw [if_neg (by omega), Nat.add_sub_cancel_left]
        · obtain ⟨E, q1, q2, q3⟩ := h5.1 r (by omega)
          refine ⟨E, by rw [t7 (7 + r) (by omega), m1]; exact q1, q2, fun c hc => ?_⟩
          rw [q3 c hc]
          show _ = decide ((if r * w + c < i * w then G (r * w + c) else ds.getD (r * w + c - i * w) 0) = 9)
          rw [if_pos (row_lt (by omega) hc)]
      · rw [t7 (7 + r) (by omega), m1]
        exact h5.2 r (by omega) h8
    have g0 : 0 < i + 1 → (fun x => if x < i * w then G x else ds.getD (x - i * w) 0) 0 ≠ 9 := by
      intro _
      show (if 0 < i * w then G 0 else ds.getD (0 - i * w) 0) ≠ 9
      by_cases i0 : i = 0
      · rw [i0, Nat.zero_mul, if_neg (by decide)]
        exact t4 i0
      · rw [if_pos (Nat.mul_pos (by omega) (by omega))]
        exact h6 (by omega)
    obtain ⟨σ3, l', G', u1, u2, u3, u4, u5, u6, u7, u8⟩ := ih (i + 1) j σ2 _ _ (by omega) (by omega) len t5 pr (by rw [t7 1 (by omega), m1]; exact h4) br g0
    refine ⟨σ3, l', G', ?_, u2, u3, u4, u5, u6, fun m hm => by rw [u7 m hm, t7 m (by omega), m1], r3.kf.tr (t8.tr u8)⟩
    have ec : (0 : Int32) + 1 + nI i = nI (1 + i) := by
      rw [show (0 : Int32) + 1 = nI 1 from by decide, nI_add]
    rw [J_L_make_b133, if_neg (fun z => by have := (nI_leI (by omega) (by omega)).mp z; omega), if_neg (by decide), show J_X7_write 114 σ = _ from r1, bd2_s, if_neg (nI_nle (by omega) (by omega)), ec, hy σ1, bd1_s]
    exact (show J_L_make_b176 Ln xs _ FU 0 x6 1 (nI rows) (nI i) y 0 σ1 = _ from t1).trans u1
/-- the bogs, as the law reads them -/
theorem br_bog {σ : Sg} {w rows : Nat} {G : Nat → Nat} (w1 : 1 ≤ w) (hw : w ≤ 5) (hr : rows ≤ 5) (m1 : σ 141 1 = nI w) (b : BR σ w rows G) {x : Nat} (hx : x < rows * w) : J_L_bog (nI x) σ = some (bI (decide (G x = 9))) := by
  have xr : x / w < rows := (Nat.div_lt_iff_lt_mul (by omega)).mpr hx
  have xc : x % w < w := Nat.mod_lt _ (by omega)
  have x25 : x < 25 := Nat.lt_of_lt_of_le hx (Nat.mul_le_mul hr hw)
  obtain ⟨E, e1, e2, e3⟩ := b.1 (x / w) xr
  have e3' := e3 (x % w) xc
  rw [show x / w * w + x % w = x from by rw [Nat.mul_comm]; exact Nat.div_add_mod x w] at e3'
  have hn := has_nI E e2 (x % w) (by omega)
  have n0 : ¬ σ 141 1 = 0 := by rw [m1]; exact nI_ne0 (by omega) (by omega)
  have ix : (7 : Int32) + nI x / nI w = nI (7 + x / w) := by rw [nI_div (by omega) (by omega), show (7 : Int32) = nI 7 from rfl, nI_add]
  unfold J_L_bog
  rw [if_neg n0, m1, ix, if_pos ((inb_nI (by omega)).mpr (by omega)), if_neg (nI_ne0 (by omega) (by omega)), nI_clamp (n := 7 + x / w) (by omega), e1, rmI_nI (by omega) (by omega)]
  rw [e3'] at hn
  by_cases g9 : G x = 9
  · rw [decide_eq_true g9] at hn ⊢
    rw [if_pos (of_decide_eq_true hn)]
    rfl
  · rw [decide_eq_false g9] at hn ⊢
    rw [if_neg (of_decide_eq_false hn)]
    rfl
end MAK
