/-! a meadow by cells, told as a text: beasts, well, hunger, days; the text is read and laid -/
theorem BR.fr {σ σ' : Sg} {w i : Nat} {G : Nat → Nat} (b : BR σ w i G) (f : ∀ m, 7 ≤ m → m ≤ 12 → σ' 141 m = σ 141 m) (hi : i ≤ 6) : BR σ' w i G := by
  refine ⟨fun r hr => ?_, fun r h1 h2 => by rw [f _ (by omega) (by omega)]; exact b.2 r h1 h2⟩
  obtain ⟨E, e1, e2, e3⟩ := b.1 r hr
  exact ⟨E, by rw [f _ (by omega) (by omega)]; exact e1, e2, e3⟩
/-- what holds while the beasts are told: i were looked at, nb of them stand -/
def BI (σ : Sg) (rows w i : Nat) (l : List Nat) (G : Nat → Nat) (nb : Nat) (K X : Nat → Nat) : Prop := (TXT σ l ∧ l.length ≤ 35 + 8 * i ∧ nb ≤ i ∧ (0 < i → 1 ≤ nb)) ∧ PR (rows + nb) l (RQ (rows * w) w rows nb 36 0 G K X) ∧ (σ 141 0 = nI (rows * w) ∧ σ 141 1 = nI w ∧ σ 141 2 = nI nb ∧ σ 141 3 = -4) ∧ BR σ w rows G ∧ ∀ b, b < nb → σ 141 (13 + b) = nI (K b) ∧ σ 142 (37 + b) = nI (X b)
section MAK2
variable {Ln : Nat} {xs : Nat → Int32}
theorem mk_462 (y375 : Int32 → Int32 → Int32 → Int32 → Int32 → Sg → Option (Int32 × Sg)) (x6 x9 x11 : Int32) {rows w i x nb : Nat} {G K X : Nat → Nat} {l : List Nat} {σ : Sg} (hr : rows ≤ 5) (hw : w ≤ 5) (hi : i < 8) (hx : x < rows * w) (B : BI σ rows w i l G nb K X) : ∀ (k b j : Nat) (x13 : Int32), b + k = nb → k < j → ((x13 = 0 ∧ 1 ≤ nb) ∨ (x13 = 1 ∧ G x ≠ 9 ∧ ∀ b', b' < b → X b' ≠ x)) → ∃ σ' l' nb' K' X', J_L_make_b462 Ln xs y375 j 0 x6 1 x9 (nI i) x11 (nI x) x13 (nI b) σ = y375 0 x6 1 x9 (nI (i + 1)) σ' ∧ BI σ' rows w (i + 1) l' G nb' K' X' ∧ KF σ σ' := by
  obtain ⟨⟨t, tl, nbi, nb0⟩, pr, ⟨m0, m1, m2, m3⟩, br, kx⟩ := B
  have x25 : x < 25 := Nat.lt_of_lt_of_le hx (Nat.mul_le_mul hr hw)
  have q25 : rows * w ≤ 25 := Nat.mul_le_mul hr hw
  have a1 : nI i + (1 : Int32) = nI (i + 1) := by rw [li_1, nI_add]
  intro k
  induction k with
  | zero =>
    intro b j x13 hb hj hf
    obtain ⟨j, rfl⟩ : ∃ i, j = i + 1 := ⟨j - 1, by omega⟩
    have eb : b = nb := by omega
    subst eb
    rw [J_L_make_b462, m2, if_pos (Int32.le_refl _), a1]
    rcases hf with ⟨z, nb1⟩ | ⟨z, g9, nx⟩
    · rw [z, if_pos rfl]
      exact ⟨σ, l, b, K, X, rfl, ⟨⟨t, by omega, by omega, fun _ => nb1⟩, pr, ⟨m0, m1, m2, m3⟩, br, kx⟩, KF.rf⟩
    · obtain ⟨kd, k3, ek⟩ := and_nI (x11 >>> ((6 : Int32) &&& 31)) (m := 3) (by decide)
      have ek' : (x11 >>> ((6 : Int32) &&& 31)) &&& (3 : Int32) = nI kd := ek
      obtain ⟨vl, v1, ev⟩ := and_nI (x11 >>> ((8 : Int32) &&& 31)) (m := 1) (by decide)
      have ev' : (x11 >>> ((8 : Int32) &&& 31)) &&& (1 : Int32) = nI vl := ev
      have i13 : (13 : Int32) + nI b = nI (13 + b) := by rw [show (13 : Int32) = nI 13 from rfl, nI_add]
      have i37 : (37 : Int32) + nI b = nI (37 + b) := by rw [show (37 : Int32) = nI 37 from rfl, nI_add]
      have b1 : nI b + (1 : Int32) = nI (b + 1) := by rw [li_1, nI_add]
      rw [z, if_neg (show ¬ (1 : Int32) = 0 by decide), if_neg (show ¬ (1 : Int32) = 0 by decide), i13, if_pos ((inb_nI (by omega)).mpr (by omega)), nI_clamp (n := 13 + b) (by omega), ek', ev']
      generalize hA : up σ 141 (13 + b) (nI kd) = SA
      have A2 : SA 141 2 = nI b := by rw [← hA, up_i (by omega)]; exact m2
      rw [A2]
      generalize hB : up SA 141 21 (SA 141 21 ||| nI vl <<< (nI b &&& 31)) = SB
      have B2 : SB 141 2 = nI b := by rw [← hB, up_i (by omega)]; exact A2
      rw [B2, i37, if_pos ((inb_nI (by omega)).mpr (by omega)), nI_clamp (n := 37 + b) (by omega)]
      generalize hC : up SB 142 (37 + b) (nI x) = SC
      have C2 : SC 141 2 = nI b := by rw [← hC, up_n (by decide)]; exact B2
      rw [C2, b1]
      generalize hD : up SC 141 2 (nI (b + 1)) = SD
      have fm : ∀ m, m ≠ 13 + b → m ≠ 21 → m ≠ 2 → SD 141 m = σ 141 m := fun m z1 z2 z3 => by rw [← hD, up_i z3, ← hC, up_n (by decide), ← hB, up_i z2, ← hA, up_i z1]
      have f13 : SD 141 (13 + b) = nI kd := by rw [← hD, up_i (by omega), ← hC, up_n (by decide), ← hB, up_i (by omega), ← hA, up_s]
      have f2 : SD 141 2 = nI (b + 1) := by rw [← hD, up_s]
      have fe : ∀ m, m ≠ 37 + b → SD 142 m = σ 142 m := fun m z1 => by rw [← hD, up_n (by decide), ← hC, up_i z1, ← hB, up_n (by decide), ← hA, up_n (by decide)]
      have f37 : SD 142 (37 + b) = nI x := by rw [← hD, up_n (by decide), ← hC, up_s]
      have kf : KF σ SD := by rw [← hD, ← hC, ← hB, ← hA]; exact KF.rf.m.m.e.m
      have tD : TXT SD l := by rw [← hD, ← hC, ← hB, ← hA]; exact t.m.m.e.m
      clear hA hB hC hD
      have n1 := numL_len kd
      have n2 := numL_len vl
      have n3 := numL_len x
      have k1 : (numL kd).length = 1 := by unfold numL; rw [if_pos (by omega)]; rfl
      have k2 : (numL vl).length = 1 := by unfold numL; rw [if_pos (by omega)]; rfl
      obtain ⟨σ1, r1, s1, f1⟩ := w_let (c := 98) tD (by omega) (by decide) (by decide)
      have l1 : (l ++ [98]).length = l.length + 1 := by rw [List.length_append, List.length_singleton]
      obtain ⟨σ2, r2, s2, f2'⟩ := w_num (x := kd) (c := 44) s1 (by rw [l1]; omega) (by omega) (by decide) (by decide)
      have l2 : (l ++ [98] ++ (numL kd ++ [44])).length = l.length + 3 := by rw [List.length_append, l1, List.length_append, List.length_singleton, k1]
      obtain ⟨σ3, r3, s3, f3⟩ := w_num (x := vl) (c := 44) s2 (by rw [l2]; omega) (by omega) (by decide) (by decide)
      have l3 : (l ++ [98] ++ (numL kd ++ [44]) ++ (numL vl ++ [44])).length = l.length + 5 := by rw [List.length_append, l2, List.length_append, List.length_singleton, k2]
      obtain ⟨σ4, r4, s4, f4⟩ := w_num (x := x) (c := 59) s3 (by rw [l3]; omega) (by omega) (by decide) (by decide)
      have F : Fw SD σ4 := f1.tr (f2'.tr (f3.tr f4))
      have F1 : σ4 141 = SD 141 := F 141 (by decide) (by decide)
      have F2 : σ4 142 = SD 142 := F 142 (by decide) (by decide)
      have e : l ++ [98] ++ (numL kd ++ [44]) ++ (numL vl ++ [44]) ++ (numL x ++ [59]) = l ++ (98 :: (numL kd ++ [44] ++ (numL vl ++ [44] ++ (numL x ++ [59])))) := by simp
      have len : (l ++ (98 :: (numL kd ++ [44] ++ (numL vl ++ [44] ++ (numL x ++ [59]))))).length ≤ 35 + 8 * (i + 1) := by
        rw [← e, List.length_append, l3, List.length_append, List.length_singleton]
        omega
      rw [e] at s4
      refine ⟨σ4, _, b + 1, fun a => if a = b then kd else K a, fun a => if a = b then x else X a, ?_, ⟨⟨s4, len, by omega, fun _ => by omega⟩, pr.step (by rw [List.length_cons]; omega) fun L t r s hr => it_bea hr k3 v1 (by omega) hx (by omega) g9 nx s, ⟨?_, ?_, ?_, ?_⟩, br.fr (fun m z1 z2 => by rw [F1, fm m (by omega) (by omega) (by omega)]) (by omega), fun b' hb' => ⟨?_, ?_⟩⟩, kf.tr F.kf⟩
      · rw [show J_X7_write (98 : Int32) SD = _ from r1, bd2_s, if_neg (nI_nle (by omega) (by omega)), show J_L_number (nI kd) (44 : Int32) σ1 = _ from r2, bd2_s, if_neg (by decide), show J_L_number (nI vl) (44 : Int32) σ2 = _ from r3, bd2_s, if_neg (by decide), show J_L_number (nI x) (59 : Int32) σ3 = _ from r4, bd2_s, if_neg (by decide)]
      · rw [F1, fm 0 (by omega) (by omega) (by omega)]; exact m0
      · rw [F1, fm 1 (by omega) (by omega) (by omega)]; exact m1
      · rw [F1]; exact f2
      · rw [F1, fm 3 (by omega) (by omega) (by omega)]; exact m3
      · show σ4 141 (13 + b') = nI (if b' = b then kd else K b')
        rw [F1]
        by_cases eb : b' = b
        · rw [if_pos eb, eb]; exact f13
        · rw [if_neg eb, fm _ (by omega) (by omega) (by omega)]
          exact (kx b' (by omega)).1
      · show σ4 142 (37 + b') = nI (if b' = b then x else X b')
        rw [F2]
        by_cases eb : b' = b
        · rw [if_pos eb, eb]; exact f37
        · rw [if_neg eb, fe _ (by omega)]
          exact (kx b' (by omega)).2
  | succ k ih =>
    intro b j x13 hb hj hf
    obtain ⟨j, rfl⟩ : ∃ i, j = i + 1 := ⟨j - 1, by omega⟩
    have b1 : nI b + (1 : Int32) = nI (b + 1) := by rw [li_1, nI_add]
    have i37 : (37 : Int32) + nI b = nI (37 + b) := by rw [show (37 : Int32) = nI 37 from rfl, nI_add]
    rw [J_L_make_b462, m2, if_neg (fun z => by have := (nI_leI (by omega) (by omega)).mp z; omega), b1]
    rcases hf with ⟨z, nb1⟩ | ⟨z, g9, nx⟩
    · rw [z, if_pos rfl]
      exact ih (b + 1) j 0 (by omega) (by omega) (Or.inl ⟨rfl, nb1⟩)
    · rw [z, if_neg (by decide), i37, if_pos ((inb_nI (by omega)).mpr (by omega)), nI_clamp (n := 37 + b) (by omega), (kx b (by omega)).2]
      by_cases ex : nI (X b) = nI x
      · rw [if_pos ex]
        exact ih (b + 1) j 0 (by omega) (by omega) (Or.inl ⟨rfl, by omega⟩)
      · rw [if_neg ex]
        refine ih (b + 1) j 1 (by omega) (by omega) (Or.inr ⟨rfl, g9, fun b' hb' => ?_⟩)
        by_cases e : b' = b
        · rw [e]; exact fun z => ex (by rw [z])
        · exact nx b' (by omega)
theorem mk_440 (y375 : Int32 → Int32 → Int32 → Int32 → Int32 → Sg → Option (Int32 × Sg)) (x6 x9 x11 : Int32) {rows w i x nb : Nat} {G K X : Nat → Nat} {l : List Nat} {σ : Sg} (hr : rows ≤ 5) (w1 : 1 ≤ w) (hw : w ≤ 5) (hi : i < 8) (hx : x < rows * w) (h0 : nb = 0 → G x ≠ 9) (B : BI σ rows w i l G nb K X) : ∃ σ' l' nb' K' X', J_L_make_b440 Ln xs y375 0 x6 1 x9 (nI i) x11 (nI x) σ = y375 0 x6 1 x9 (nI (i + 1)) σ' ∧ BI σ' rows w (i + 1) l' G nb' K' X' ∧ KF σ σ' := by
  have nbi := B.1.2.2.1
  unfold J_L_make_b440
  rw [br_bog w1 hw hr B.2.2.1.2.1 B.2.2.2.1 hx, bd1_s]
  by_cases g9 : G x = 9
  · rw [decide_eq_true g9, if_neg (by decide)]
    exact mk_462 y375 x6 x9 x11 hr hw hi hx B nb 0 FU 0 (by omega) (by rw [FU_eq]; omega) (Or.inl ⟨rfl, by
      rcases Nat.eq_zero_or_pos nb with z | z
      · exact absurd g9 (h0 z)
      · exact z⟩)
  · rw [decide_eq_false g9, if_pos (show bI false = 0 from rfl)]
    exact mk_462 y375 x6 x9 x11 hr hw hi hx B nb 0 FU 1 (by omega) (by rw [FU_eq]; omega) (Or.inr ⟨rfl, g9, fun b' hb' => absurd hb' (Nat.not_lt_zero b')⟩)
/-- the beasts -/
theorem mk_375 (hL : Ln ≤ 260) (x6 : Int32) {rows w told : Nat} {G : Nat → Nat} (r1 : 1 ≤ rows) (hr : rows ≤ 5) (w1 : 1 ≤ w) (hw : w ≤ 5) (ht : told ≤ 8) (g0 : G 0 ≠ 9) : ∀ (k i j nb : Nat) (σ : Sg) (l : List Nat) (K X : Nat → Nat), i + k = told → k < j → BI σ rows w i l G nb K X → ∃ j' σ' l' nb' K' X', J_L_make_b375 Ln xs j 0 x6 1 (nI told) (nI i) σ = J_L_make_b375 Ln xs (j' + 1) 0 x6 1 (nI told) (nI told) σ' ∧ BI σ' rows w told l' G nb' K' X' ∧ KF σ σ' := by
  intro k
  have q1 : 1 ≤ rows * w := Nat.mul_pos r1 w1
  have q25 : rows * w ≤ 25 := Nat.mul_le_mul hr hw
  induction k with
  | zero =>
    intro i j nb σ l K X hi hj B
    obtain ⟨j, rfl⟩ : ∃ i, j = i + 1 := ⟨j - 1, by omega⟩
    have ei : i = told := by omega
    subst ei
    exact ⟨j, σ, l, nb, K, X, rfl, B, KF.rf⟩
  | succ k ih =>
    intro i j nb σ l K X hi hj B
    obtain ⟨j, rfl⟩ : ∃ i, j = i + 1 := ⟨j - 1, by omega⟩
    obtain ⟨v, hv⟩ := cell_ok (xs := xs) hL (k := 7 + i / 2) (by omega)
    obtain ⟨x, x1, x2⟩ := low_ok ((v >>> (((14 : Int32) * (rmI (nI i) (2 : Int32))) &&& 31)) &&& (63 : Int32)) (n := rows * w) (by omega) (by omega)
    have ec : ((0 : Int32) + (7 : Int32)) + (nI i / (2 : Int32)) = nI (7 + i / 2) := by
      rw [show (0 : Int32) + (7 : Int32) = nI 7 from by decide, show (2 : Int32) = nI 2 from rfl, nI_div (by omega) (by omega), nI_add]
    have go : ∀ x, x < rows * w → (nb = 0 → G x ≠ 9) → ∃ j' σ' l' nb' K' X', J_L_make_b440 Ln xs (fun x2 x6 x7 x9 x10 σ => J_L_make_b375 Ln xs j x2 x6 x7 x9 x10 σ) 0 x6 1 (nI told) (nI i) (v >>> (((14 : Int32) * (rmI (nI i) (2 : Int32))) &&& 31)) (nI x) σ = J_L_make_b375 Ln xs (j' + 1) 0 x6 1 (nI told) (nI told) σ' ∧ BI σ' rows w told l' G nb' K' X' ∧ KF σ σ' := by
      intro x hx h0
      obtain ⟨σ1, l1, nb1, K1, X1, e1, B1, F1⟩ := mk_440 (Ln := Ln) (xs := xs) (fun x2 x6 x7 x9 x10 σ => J_L_make_b375 Ln xs j x2 x6 x7 x9 x10 σ) x6 (nI told) (v >>> (((14 : Int32) * (rmI (nI i) (2 : Int32))) &&& 31)) hr w1 hw (show i < 8 by omega) hx h0 B
      obtain ⟨j', σ2, l2, nb2, K2, X2, e2, B2, F2⟩ := ih (i + 1) j nb1 σ1 l1 K1 X1 (by omega) (by omega) B1
      exact ⟨j', σ2, l2, nb2, K2, X2, by rw [e1]; exact e2, B2, F1.tr F2⟩
    rw [J_L_make_b375, if_neg (fun z => by have := (nI_leI (by omega) (by omega)).mp z; omega), ec, hv σ, bd1_s, B.2.2.1.1, x2 σ, bd1_s]
    by_cases i0 : i = 0
    · rw [if_pos (neq li_0 i0), br_bog w1 hw hr B.2.2.1.2.1 B.2.2.2.1 x1, bd1_s]
      by_cases g9 : G x = 9
      · rw [decide_eq_true g9, if_neg (by decide)]
        exact go 0 (by omega) (fun _ => g0)
      · rw [decide_eq_false g9, if_pos (show bI false = 0 from rfl)]
        exact go x x1 (fun _ => g9)
    · rw [if_neg (nne li_0 (by omega) (by omega) i0)]
      exact go x x1 (fun z => by have := B.1.2.2.2 (by omega); omega)
/-- what holds behind the beasts -/
def EI (σ : Sg) (rows w n : Nat) (l : List Nat) (G : Nat → Nat) (nb wl sn : Nat) (K X : Nat → Nat) : Prop := (TXT σ l ∧ 1 ≤ nb) ∧ PR n l (RQ (rows * w) w rows nb wl sn G K X) ∧ (σ 141 0 = nI (rows * w) ∧ σ 141 1 = nI w ∧ σ 141 2 = nI nb ∧ σ 141 3 = plI wl) ∧ BR σ w rows G ∧ ∀ b, b < nb → σ 141 (13 + b) = nI (K b)
theorem g_lay {σ : Sg} {L : Nat → Nat} {t : Nat} (c1 : TC σ L t) (y : (faR L t).1 = none) (hB : 1 ≤ rB (faR L t).2) (h24 : σ 24 4 = nI 0) : ∃ σ' h, J_X7_lay σ = some (nI (rB (faR L t).2), σ') ∧ GC 0 σ' (laΛ (faR L t).2) (laS (faR L t).2) h ∧ hq h = 0 ∧ σ' 141 = σ 141 := by
  obtain ⟨σ1, a1, a2, a3⟩ := jc_firstFault c1
  obtain ⟨rc, ok⟩ := a2 y
  rw [y] at a1
  generalize hr : (faR L t).2 = r at rc ok hB ⊢
  have b8 := ok.2.2.2.1
  obtain ⟨τ, e1, e2, e3, e4, e5⟩ := @jc_landCopy σ1
  obtain ⟨m9, l6⟩ := rc.m9 ok
  have mτ : MC τ 9 (laΛ r) (laS r) := MC.fr m9 (e5 _ (by decide)) (e5 _ (by decide)) (e5 _ (by decide)) (e5 _ (by decide)) (e5 _ (by decide))
  have lτ : LC τ 1 (laΛ r) := by
    obtain ⟨d0, d1, d3, d4, d5, d6, d7, d8⟩ := l6
    refine ⟨?_, ?_, ?_, ?_, ?_, ?_, fun b hb => ?_, fun k hk => ?_⟩
    · rw [e2 0 (by decide)]; exact d0
    · rw [e2 1 (by decide)]; exact d1
    · rw [e2 3 (by decide)]; exact d3
    · rw [e2 4 (by decide)]; exact d4
    · rw [e2 5 (by decide)]; exact d5
    · rw [e2 6 (by decide)]; exact d6
    · show τ 2 b = _; rw [e3]; exact d7 b hb
    · show τ 3 k = _; rw [e4]; exact d8 k hk
  obtain ⟨σ3, f1, f2, f3⟩ := jc_copy (c := 14) (d := 9) mτ (by decide)
  have lσ3 : LC σ3 1 (laΛ r) := LC.fr lτ (f3 1 (by decide)) (f3 2 (by decide)) (f3 3 (by decide))
  have m4 : MC (up (up σ3 24 3 0) 0 8 0) 14 (laΛ r) (laS r) := (f2.upo (by decide)).upo (by decide)
  have l4 : LC (up (up σ3 24 3 0) 0 8 0) 1 (laΛ r) := LC.fr lσ3 (by rw [up_na (by decide), up_na (by decide)]) (by rw [up_na (by decide), up_na (by decide)]) (by rw [up_na (by decide), up_na (by decide)])
  have FC : Fs (fun a j => Rcl a j ∨ (1 ≤ a ∧ a ≤ 3) ∨ (14 ≤ a ∧ a ≤ 18) ∨ (a = 24 ∧ j = 3) ∨ (a = 0 ∧ j = 8)) σ (up (up σ3 24 3 0) 0 8 0) := by
    refine Fs.up (P := fun a j => Rcl a j ∨ (1 ≤ a ∧ a ≤ 3) ∨ (14 ≤ a ∧ a ≤ 18) ∨ (a = 24 ∧ j = 3) ∨ (a = 0 ∧ j = 8)) (Fs.up (P := fun a j => Rcl a j ∨ (1 ≤ a ∧ a ≤ 3) ∨ (14 ≤ a ∧ a ≤ 18) ∨ (a = 24 ∧ j = 3) ∨ (a = 0 ∧ j = 8)) ?_ (Or.inr (Or.inr (Or.inr (Or.inl ⟨rfl, rfl⟩))))) (Or.inr (Or.inr (Or.inr (Or.inr ⟨rfl, rfl⟩))))
    exact (a3.mono fun _ _ z => Or.inl z).tr ((e5.fs fun a j z => Or.inr (Or.inl z)).tr (f3.fs fun a j z => Or.inr (Or.inr (Or.inl z))))
  have y3 : (up (up σ3 24 3 0) 0 8 0) 24 3 = nI 0 := by rw [up_n (by decide), up_s]; rfl
  have y8 : (up (up σ3 24 3 0) 0 8 0) 0 8 = nI 0 := up_s
  obtain ⟨lok, sok⟩ := la_ok ok hB
  refine ⟨up (up σ3 24 3 0) 0 8 0, ((0, 0, fun _ => laS r, fun _ => 0), (0, fun _ => laS r)), ?_, ⟨l4, lok, m4, sok, Nat.le_refl 0, ⟨y3, ?_, fun i hi => absurd hi (Nat.not_lt_zero i)⟩, ⟨Nat.zero_le _, (show (0 : Nat) < 8 by decide), fun i hi => absurd hi (Nat.not_lt_zero i)⟩, ⟨y8, fun i hi => absurd hi (Nat.not_lt_zero i)⟩, ⟨Nat.zero_le _, fun i hi => absurd hi (Nat.not_lt_zero i)⟩⟩, rfl, ?_⟩
  · unfold J_X7_lay J_X7_begin
    rw [a1, bd2_s, if_pos (show onI4 none = -4 from rfl), rc.2.2.2.1, if_pos (show (1 : Int32) ≤ nI (rB r) from by rw [li_1, nI_leI (by omega) (by omega)]; exact hB), e1, bd2_s, f1, bd2_s, bd2_s, if_neg n10, l4.2.2.1]
    rfl
  · show (up (up σ3 24 3 0) 0 8 0) 24 4 = nI 0
    rw [FC 24 4 (fun z => by rcases z with z | z; (have := z.no; omega); omega)]
    exact h24
  · funext j
    exact FC 141 j (fun z => by rcases z with z | z; (have := z.no; omega); omega)
theorem mk_end {σ : Sg} {rows w n nb wl sn : Nat} {G K X : Nat → Nat} {l : List Nat} (r1 : 1 ≤ rows) (hr : rows ≤ 5) (w1 : 1 ≤ w) (hw : w ≤ 5) (hn : n ≤ 201) (hl : l.length ≤ 200) (h24 : σ 24 4 = nI 0) (E : EI σ rows w n l G nb wl sn K X) : ∃ σ' Λ s h, (bd2 (J_X7_fault σ) fun r840 s840 => (if r840 = (-4 : Int32) then (bd2 (J_X7_lay s840) fun r849 s849 => (if r849 = (s849 141 2) then (some ((1 : Int32), s849)) else (some ((0 : Int32), s849)))) else (some ((0 : Int32), s840)))) = some (1, σ') ∧ GC 0 σ' Λ s h ∧ LX σ' Λ ∧ hq h = 0 := by
  obtain ⟨⟨t, nb1⟩, pr, ⟨m0, m1, m2, m3⟩, br, kx⟩ := E
  obtain ⟨y, q1, q2, q3, q4, q5, q6, q7, q8⟩ := pr.fin hn (L := fun i => l.getD i 0) ⟨Nat.le_refl _, fun _ _ => rfl⟩
  have tc := t.tc hl
  obtain ⟨σ1, a1, a2, a3⟩ := jc_firstFault tc
  have tc1 : TC σ1 (fun i => l.getD i 0) l.length := tc.fr a3
  have f41 : σ1 141 = σ 141 := funext fun j => a3 141 j fun z => by have := z.no; omega
  obtain ⟨σ2, h, g1, g2, g3, g4⟩ := g_lay tc1 y (by rw [q4]; exact nb1) (by rw [a3 24 4 (fun z => by have := z.no; omega)]; exact h24)
  have F : σ2 141 = σ 141 := by rw [g4, f41]
  generalize (faR (fun i => l.getD i 0) l.length).2 = r at g1 g2 q1 q2 q3 q4 q5 q6 q7 q8
  have eW : rW r = w := by rcases q2 with z | z; omega; exact z
  refine ⟨σ2, laΛ r, laS r, h, ?_, g2, ?_, g3⟩
  · unfold J_X7_fault
    rw [a1, y, bd2_s, bd2_s, if_pos (show onI4 none = -4 from rfl), g1, bd2_s, q4, F, m2, if_pos rfl]
  · refine ⟨?_, ?_, ?_, ?_, fun b hb => ?_, fun x hx => ?_⟩
    · show σ2 141 0 = nI (rQ r); rw [F, q1]; exact m0
    · show σ2 141 1 = nI (rW r); rw [F, eW]; exact m1
    · show σ2 141 2 = nI (rB r); rw [F, q4]; exact m2
    · show σ2 141 3 = plI (rWl r); rw [F, q5]; exact m3
    · have hb' : b < rB r := hb
      show σ2 141 (13 + b) = nI (rK r b)
      rw [F, kx b (by omega), (q8 b (by omega)).1]
    · have hx' : x < rQ r := hx
      show J_L_bog (nI x) σ2 = some (bI (decide (rG r x = 9)))
      rw [q7 x (by omega)]
      exact br_bog w1 hw hr (by rw [F]; exact m1) (br.fr (fun m _ _ => by rw [F]) (by omega)) (by omega)
theorem EI.fr {σ σ' : Sg} {rows w n nb wl sn : Nat} {G K X : Nat → Nat} {l : List Nat} (E : EI σ rows w n l G nb wl sn K X) (hr : rows ≤ 6) (nb8 : nb ≤ 8) (h4 : σ' 4 = σ 4) (h5 : σ' 5 = σ 5) (f : ∀ m, m < 4 ∨ (6 < m ∧ m < 21) → σ' 141 m = σ 141 m) : EI σ' rows w n l G nb wl sn K X := by
  obtain ⟨⟨t, nb1⟩, pr, ⟨m0, m1, m2, m3⟩, br, kx⟩ := E
  refine ⟨⟨t.fr h4 h5, nb1⟩, pr, ⟨?_, ?_, ?_, ?_⟩, br.fr (fun m z1 z2 => f m (by omega)) hr, fun b hb => ?_⟩
  · rw [f 0 (by omega)]; exact m0
  · rw [f 1 (by omega)]; exact m1
  · rw [f 2 (by omega)]; exact m2
  · rw [f 3 (by omega)]; exact m3
  · rw [f _ (by omega)]; exact kx b hb
/-- days of snow -/
theorem mk_762 (hL : Ln ≤ 260) {rows w nb wl days : Nat} {G K X : Nat → Nat} (r1 : 1 ≤ rows) (hr : rows ≤ 5) (w1 : 1 ≤ w) (hw : w ≤ 5) (nb8 : nb ≤ 8) (hd : days ≤ 9) : ∀ (k i j n : Nat) (σ : Sg) (l : List Nat), i + k = days → k < j → n + k ≤ 201 → l.length + 4 * k ≤ 200 → σ 24 4 = nI 0 → EI σ rows w n l G nb wl i K X → ∃ σ' Λ s h, J_L_make_b762 Ln xs j 0 1 (nI days) (nI i) σ = some (1, σ') ∧ GC 0 σ' Λ s h ∧ LX σ' Λ ∧ hq h = 0 := by
  intro k
  induction k with
  | zero =>
    intro i j n σ l hi hj hn hl h24 E
    obtain ⟨j, rfl⟩ : ∃ i, j = i + 1 := ⟨j - 1, by omega⟩
    rw [J_L_make_b762, if_pos (show nI days ≤ nI i from by rw [nI_leI (by omega) (by omega)]; omega), if_neg (show ¬ (1 : Int32) = 0 by decide)]
    exact mk_end r1 hr w1 hw hn hl h24 E
  | succ k ih =>
    intro i j n σ l hi hj hn hl h24 E
    obtain ⟨j, rfl⟩ : ∃ i, j = i + 1 := ⟨j - 1, by omega⟩
    obtain ⟨v, hv⟩ := cell_ok (xs := xs) hL (k := 11) (by decide)
    obtain ⟨s, s1, es⟩ := and_nI (v >>> (nI i &&& 31)) (m := 1) (by decide)
    have es' : (v >>> (nI i &&& 31)) &&& (1 : Int32) = nI s := es
    have a1 : nI i + (1 : Int32) = nI (i + 1) := by rw [li_1, nI_add]
    rw [J_L_make_b762, if_neg (fun z => by have := (nI_leI (by omega) (by omega)).mp z; omega), show (0 : Int32) + (11 : Int32) = nI 11 from by decide, hv σ, bd1_s, if_neg (show ¬ (1 : Int32) = 0 by decide), es', a1]
    generalize hA : up σ 141 6 (σ 141 6 ||| nI s <<< (nI i &&& 31)) = SA
    generalize hB : up SA 141 5 (SA 141 5 + 1) = SB
    have E1 : EI SB rows w n l G nb wl i K X := E.fr (by omega) nb8 (by rw [← hB, up_ne (by decide), ← hA, up_ne (by decide)]) (by rw [← hB, up_ne (by decide), ← hA, up_ne (by decide)]) fun m hm => by rw [← hB, up_i (by omega), ← hA, up_i (by omega)]
    have n1 := numL_len s
    obtain ⟨σ1, t1, t2, t3⟩ := w_one (x := s) (c := 115) E1.1.1 (by omega) (by omega) (by decide) (by decide)
    have F1 : σ1 141 = SB 141 := t3 141 (by decide) (by decide)
    have E2 : EI σ1 rows w (n + 1) (l ++ (115 :: (numL s ++ [59]))) G nb wl (i + 1) K X := by
      obtain ⟨⟨t, nb1⟩, pr, ⟨m0, m1, m2, m3⟩, br, kx⟩ := E1
      refine ⟨⟨t2, nb1⟩, pr.step (by rw [List.length_cons]; omega) fun L t r s0 hr => it_sno hr s1 (by omega) s0, ⟨by rw [F1]; exact m0, by rw [F1]; exact m1, by rw [F1]; exact m2, by rw [F1]; exact m3⟩, br.fr (fun m _ _ => by rw [F1]) (by omega), fun b hb => by rw [F1]; exact kx b hb⟩
    have k1 : (numL s).length = 1 := by unfold numL; rw [if_pos (by omega)]; rfl
    have len : (l ++ (115 :: (numL s ++ [59]))).length = l.length + 3 := by rw [List.length_append, List.length_cons, List.length_append, List.length_singleton, k1]
    obtain ⟨σ', Λ, st, h, u1, u2⟩ := ih (i + 1) j (n + 1) σ1 _ (by omega) (by omega) (by omega) (by rw [len]; omega) (by rw [t3 24 (by decide) (by decide), ← hB, up_n (by decide), ← hA, up_n (by decide)]; exact h24) E2
    refine ⟨σ', Λ, st, h, ?_, u2⟩
    rw [show J_L_one (115 : Int32) (nI s) SB = _ from t1, bd2_s, if_neg (by decide)]
    exact u1
/-- hunger -/
theorem mk_695 (hL : Ln ≤ 260) (x6 : Int32) {rows w nb wl n : Nat} {G K X : Nat → Nat} (r1 : 1 ≤ rows) (hr : rows ≤ 5) (w1 : 1 ≤ w) (hw : w ≤ 5) (nb8 : nb ≤ 8) {σ : Sg} {l : List Nat} (hn : n ≤ 180) (hl : l.length ≤ 150) (h24 : σ 24 4 = nI 0) (E : EI σ rows w n l G nb wl 0 K X) : ∃ σ' Λ s h, J_L_make_b695 Ln xs 0 x6 1 σ = some (1, σ') ∧ GC 0 σ' Λ s h ∧ LX σ' Λ ∧ hq h = 0 := by
  obtain ⟨d, d1, d2⟩ := low_ok (x6 >>> ((23 : Int32) &&& 31)) (n := 10) (by decide) (by decide)
  have d2' : ∀ σ : Sg, J_L_low (x6 >>> ((23 : Int32) &&& 31)) (10 : Int32) σ = some (nI d) := d2
  obtain ⟨u, u1, u2⟩ := low_ok (x6 >>> ((19 : Int32) &&& 31)) (n := 9) (by decide) (by decide)
  have u2' : ∀ σ : Sg, J_L_low (x6 >>> ((19 : Int32) &&& 31)) (9 : Int32) σ = some (nI u) := u2
  unfold J_L_make_b695
  by_cases c : ((x6 >>> ((18 : Int32) &&& 31)) &&& (1 : Int32)) = (1 : Int32)
  · rw [if_pos c, u2' σ, bd1_s, if_neg (show ¬ (1 : Int32) = 0 by decide), up_s, show (1 : Int32) + nI u = nI (1 + u) from by rw [li_1, nI_add]]
    generalize hA : up σ 141 4 (nI (1 + u)) = SA
    have E1 : EI SA rows w n l G nb wl 0 K X := E.fr (by omega) nb8 (by rw [← hA, up_ne (by decide)]) (by rw [← hA, up_ne (by decide)]) fun m hm => by rw [← hA, up_i (by omega)]
    have n1 := numL_len (1 + u)
    obtain ⟨σ1, t1, t2, t3⟩ := w_one (x := 1 + u) (c := 104) E1.1.1 (by omega) (by omega) (by decide) (by decide)
    have F1 : σ1 141 = SA 141 := t3 141 (by decide) (by decide)
    have E2 : EI σ1 rows w (n + 1) (l ++ (104 :: (numL (1 + u) ++ [59]))) G nb wl 0 K X := by
      obtain ⟨⟨t, nb1⟩, pr, ⟨m0, m1, m2, m3⟩, br, kx⟩ := E1
      refine ⟨⟨t2, nb1⟩, pr.step (by rw [List.length_cons]; omega) fun L t r s0 hr => it_hun hr (by omega) (by omega) s0, ⟨by rw [F1]; exact m0, by rw [F1]; exact m1, by rw [F1]; exact m2, by rw [F1]; exact m3⟩, br.fr (fun m _ _ => by rw [F1]) (by omega), fun b hb => by rw [F1]; exact kx b hb⟩
    have len : (l ++ (104 :: (numL (1 + u) ++ [59]))).length ≤ l.length + 4 := by
      rw [List.length_append, List.length_cons, List.length_append, List.length_singleton]
      omega
    rw [show J_L_one (104 : Int32) (nI (1 + u)) SA = _ from t1, bd2_s, if_neg (show ¬ (1 : Int32) = 0 by decide), d2' σ1, bd1_s]
    exact mk_762 hL r1 hr w1 hw nb8 (by omega) d 0 FU (n + 1) σ1 _ (by omega) (by rw [FU_eq]; omega) (by omega) (by omega) (by rw [t3 24 (by decide) (by decide), ← hA, up_n (by decide)]; exact h24) E2
  · rw [if_neg c, d2' σ, bd1_s]
    exact mk_762 hL r1 hr w1 hw nb8 (by omega) d 0 FU n σ l (by omega) (by rw [FU_eq]; omega) (by omega) (by omega) h24 E
/-- behind the beasts: the well -/
theorem mk_641 (hL : Ln ≤ 260) (x6 : Int32) {rows w told nb j : Nat} {G K X : Nat → Nat} (r1 : 1 ≤ rows) (hr : rows ≤ 5) (w1 : 1 ≤ w) (hw : w ≤ 5) (t1 : 1 ≤ told) (t8 : told ≤ 8) {σ : Sg} {l : List Nat} (h24 : σ 24 4 = nI 0) (B : BI σ rows w told l G nb K X) : ∃ σ' Λ s h, J_L_make_b375 Ln xs (j + 1) 0 x6 1 (nI told) (nI told) σ = some (1, σ') ∧ GC 0 σ' Λ s h ∧ LX σ' Λ ∧ hq h = 0 := by
  obtain ⟨⟨t, tl, nbi, nb0⟩, pr, ⟨m0, m1, m2, m3⟩, br, kx⟩ := B
  have q1 : 1 ≤ rows * w := Nat.mul_pos r1 w1
  have q25 : rows * w ≤ 25 := Nat.mul_le_mul hr hw
  obtain ⟨x, x1, x2⟩ := low_ok (x6 >>> ((10 : Int32) &&& 31)) (n := rows * w) (by omega) (by omega)
  have E : EI σ rows w (rows + nb) l G nb 36 0 K X := ⟨⟨t, nb0 (by omega)⟩, pr, ⟨m0, m1, m2, m3⟩, br, fun b hb => (kx b hb).1⟩
  rw [J_L_make_b375, if_pos (Int32.le_refl _), m0, x2 σ, bd1_s]
  by_cases c : ((x6 >>> ((16 : Int32) &&& 31)) &&& (3 : Int32)) ≤ 0
  · rw [if_pos c]
    exact mk_695 hL x6 r1 hr w1 hw (by omega) (by omega) (by omega) h24 E
  · rw [if_neg c, br_bog w1 hw hr m1 br x1, bd1_s]
    by_cases g9 : G x = 9
    · rw [decide_eq_true g9, if_neg (by decide)]
      exact mk_695 hL x6 r1 hr w1 hw (by omega) (by omega) (by omega) h24 E
    · rw [decide_eq_false g9, if_pos (show bI false = 0 from rfl), if_neg (show ¬ (1 : Int32) = 0 by decide)]
      have n1 := numL_len x
      obtain ⟨σ1, s1, s2, s3⟩ := w_one (x := x) (c := 119) (t.m (k := 3) (v := nI x)) (by omega) (by omega) (by decide) (by decide)
      have F1 : σ1 141 = up σ 141 3 (nI x) 141 := s3 141 (by decide) (by decide)
      have len : (l ++ (119 :: (numL x ++ [59]))).length ≤ l.length + 4 := by
        rw [List.length_append, List.length_cons, List.length_append, List.length_singleton]
        omega
      have E2 : EI σ1 rows w (rows + nb + 1) (l ++ (119 :: (numL x ++ [59]))) G nb x 0 K X := by
        refine ⟨⟨s2, nb0 (by omega)⟩, pr.step (by rw [List.length_cons]; omega) fun L t r s0 hr => it_wel hr x1 (by omega) g9 s0, ⟨?_, ?_, ?_, ?_⟩, br.fr (fun m _ _ => by rw [F1, up_i (by omega)]) (by omega), fun b hb => ?_⟩
        · rw [F1, up_i (by omega)]; exact m0
        · rw [F1, up_i (by omega)]; exact m1
        · rw [F1, up_i (by omega)]; exact m2
        · rw [F1, up_s, plI_of (by omega)]
        · rw [F1, up_i (by omega)]; exact (kx b hb).1
      rw [show J_L_one (119 : Int32) (nI x) (up σ 141 3 (nI x)) = _ from s1, bd2_s, if_neg (show ¬ (1 : Int32) = 0 by decide)]
      exact mk_695 hL x6 r1 hr w1 hw (by omega) (by omega) (by omega) (by rw [s3 24 (by decide) (by decide), up_n (by decide)]; exact h24) E2
/-- the meadow by cells is laid, and the law's own arrays tell the same -/
theorem la_make (hL : Ln ≤ 260) {σ : Sg} (h4 : σ 4 3 = nI 0) (h24 : σ 24 4 = nI 0) : ∃ σ' Λ s h, J_L_make Ln xs 0 5 σ = some (1, σ') ∧ GC 0 σ' Λ s h ∧ LX σ' Λ ∧ hq h = 0 := by
  obtain ⟨v, hv⟩ := cell_ok (xs := xs) hL (k := 0) (by decide)
  have hv' : J_L_cell Ln xs (0 : Int32) σ = some v := hv σ
  unfold J_L_make J_X7_wipe
  rw [hv', bd1_s, bd2_s, if_neg (show ¬ σ 4 3 < 0 from by rw [h4]; decide)]
  obtain ⟨σ1, a1, a2, -, a4⟩ := mk_24 (Ln := Ln) (xs := xs) 0 5 v 1 22 0 FU (up σ 4 3 0) rfl (by rw [FU_eq]; decide)
  obtain ⟨σ2, b1, b2⟩ := mk_46 (Ln := Ln) (xs := xs) 0 5 v 1 54 0 FU σ1 rfl (by rw [FU_eq]; decide)
  obtain ⟨a, ha, ea⟩ := low_ok v (n := 5) (by decide) (by decide)
  have ea' : ∀ σ : Sg, J_L_low v (5 : Int32) σ = some (nI a) := ea
  obtain ⟨b, hb, eb⟩ := low_ok (v >>> ((3 : Int32) &&& 31)) (n := 5) (by decide) (by decide)
  have eb' : ∀ σ : Sg, J_L_low (v >>> ((3 : Int32) &&& 31)) (5 : Int32) σ = some (nI b) := eb
  obtain ⟨c, hc, ec⟩ := low_ok (v >>> ((6 : Int32) &&& 31)) (n := 8) (by decide) (by decide)
  have ec' : ∀ σ : Sg, J_L_low (v >>> ((6 : Int32) &&& 31)) (8 : Int32) σ = some (nI c) := ec
  rw [show J_L_make_b24 Ln xs FU 0 5 v 1 0 (up σ 4 3 0) = _ from a1, show J_L_make_b46 Ln xs FU 0 5 v 1 0 σ1 = _ from b1, ea' σ2, bd1_s, eb' σ2, bd1_s, up_s, show (1 : Int32) + nI a = nI (1 + a) from by rw [li_1, nI_add], show (1 : Int32) + nI b = nI (1 + b) from by rw [li_1, nI_add], nI_mul]
  have z : ∀ m, m < 22 → σ2 141 m = nI 0 := fun m hm => by rw [b2 141 (by decide)]; exact a2 m (Nat.zero_le _) hm
  generalize hS : up (up (up (up σ2 141 1 (nI (1 + b))) 141 0 (nI ((1 + a) * (1 + b)))) 141 3 (-4)) 141 4 4 = S
  have s1 : S 141 1 = nI (1 + b) := by rw [← hS, up_i (by decide), up_i (by decide), up_i (by decide), up_s]
  have s0 : S 141 0 = nI ((1 + a) * (1 + b)) := by rw [← hS, up_i (by decide), up_i (by decide), up_s]
  have s3 : S 141 3 = -4 := by rw [← hS, up_i (by decide), up_s]
  have s2 : S 141 2 = nI 0 := by rw [← hS, up_i (by decide), up_i (by decide), up_i (by decide), up_i (by decide)]; exact z 2 (by decide)
  have s7 : ∀ r, r < 6 → S 141 (7 + r) = nI 0 := fun r hr => by rw [← hS, up_i (by omega), up_i (by omega), up_i (by omega), up_i (by omega)]; exact z _ (by omega)
  have sk : ∀ c, c ≠ 141 → c ≠ 142 → S c = up σ 4 3 0 c := fun c z1 z2 => by rw [← hS, up_ne z1, up_ne z1, up_ne z1, up_ne z1, b2 c z2, a4 c z1]
  have tx : TXT S [] := ⟨by rw [sk 4 (by decide) (by decide), up_s]; rfl, fun i hi => absurd hi (Nat.not_lt_zero i), fun c hc => absurd hc List.not_mem_nil⟩
  have h24' : S 24 4 = nI 0 := by rw [sk 24 (by decide) (by decide), up_n (by decide)]; exact h24
  clear hS
  have pr : PR 0 [] (RQ (0 * (1 + b)) (1 + b) 0 0 36 0 (fun _ => 0) (fun _ => 0) (fun _ => 0)) := PR0 ⟨by rw [Nat.zero_mul]; rfl, Or.inl rfl, rfl, rfl, rfl, rfl, fun x hx => rfl, fun b hb => absurd hb (Nat.not_lt_zero b)⟩
  obtain ⟨σ3, l, G, c1, c2, c3, c4, c5, c6, c7, c8⟩ := mk_133 (xs := xs) hL v (w := 1 + b) (rows := 1 + a) (by omega) (by omega) (by omega) (1 + a) 0 FU S [] (fun _ => 0) (by omega) (by rw [FU_eq]; omega) (Nat.zero_le _) tx pr s1 ⟨fun r hr => absurd hr (Nat.not_lt_zero r), fun r _ hr => s7 r hr⟩ (fun h => absurd h (Nat.lt_irrefl 0))
  have B : BI σ3 (1 + a) (1 + b) 0 l G 0 (fun _ => 0) (fun _ => 0) := ⟨⟨c3, by omega, Nat.le_refl _, fun h => absurd h (Nat.lt_irrefl 0)⟩, c4, ⟨by rw [c7 0 (by omega)]; exact s0, by rw [c7 1 (by omega)]; exact s1, by rw [c7 2 (by omega)]; exact s2, by rw [c7 3 (by omega)]; exact s3⟩, c5, fun b hb => absurd hb (Nat.not_lt_zero b)⟩
  obtain ⟨j', σ4, l4, nb, K, X, d1, d2, d3⟩ := mk_375 (xs := xs) hL v (told := 1 + c) (by omega) (by omega) (by omega) (by omega) (by omega) (c6 (by omega)) (1 + c) 0 FU 0 σ3 l _ _ (by omega) (by rw [FU_eq]; omega) B
  obtain ⟨σ5, Λ, s, h, e1, e2⟩ := mk_641 (xs := xs) hL v (j := j') (by omega) (by omega) (by omega) (by omega) (by omega) (by omega) (by rw [d3 24 (by decide) (by decide) (by decide) (by decide), c8 24 (by decide) (by decide) (by decide) (by decide)]; exact h24') d2
  refine ⟨σ5, Λ, s, h, ?_, e2⟩
  rw [show J_L_make_b133 Ln xs FU 0 v 1 (nI (1 + a)) 0 S = _ from c1, ec' σ3, bd1_s, show (1 : Int32) + nI c = nI (1 + c) from by rw [li_1, nI_add]]
  exact d1.trans e1
end MAK2
