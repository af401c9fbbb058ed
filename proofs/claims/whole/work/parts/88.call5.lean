/-! calls: fewest, stray; both sides -/
section CALL5
variable {σ : Sg} {D : Nat} {Λ : LT} {s : ST} {b o0 : Nat}
theorem allT_ok (hΛ : LOK Λ) (hs : SOK Λ s) (hb : b < lNb Λ) (hp : sP s b ≠ 36) (most : Nat) : TOK Λ s b (o0N s b) (allT Λ s b most) ∧ tN (allT Λ s b most) ≤ 72 := by
  obtain ⟨a1, a2, a3⟩ := outT_ok hΛ hs hb hp (most := most) 73 0 _ (ino0 hΛ hs hb hp)
  refine ⟨a1, ?_⟩
  have := @seenN_le (allT Λ s b most)
  have a2' : tN (allT Λ s b most) = seenN (allT Λ s b most) := a2
  omega
theorem allT_pre (hΛ : LOK Λ) (hs : SOK Λ s) (hb : b < lNb Λ) (hp : sP s b ≠ 36) (most : Nat) : agr (allT Λ s b most) (allT Λ s b 1000) ∧ (∀ j, j < tN (allT Λ s b most) → tF (allT Λ s b most) j ≤ most) ∧ ∀ j, tN (allT Λ s b most) ≤ j → j < tN (allT Λ s b 1000) → most < tF (allT Λ s b 1000) j :=
  outT_pre hΛ hs hb hp 73 0 _ (ino0 hΛ hs hb hp) (fun j _ => Nat.zero_le _)
theorem anc_agr {t t' : WT} {o f : Nat} (tk : TOK Λ s b o t) (h : agr t t') : ∀ k i, i < tN t → ancK t' f k i = ancK t f k i ∧ ancK t f k i < tN t
  | 0, i, hi => ⟨rfl, hi⟩
  | k + 1, i, hi => by
    obtain ⟨a1, a2, a3, a4⟩ := h.2 i hi
    unfold ancK
    rw [a2, a3]
    by_cases e : tF t i ≤ f
    · rw [if_pos e, if_pos e]; exact ⟨rfl, hi⟩
    · rw [if_neg e, if_neg e]
      by_cases i0 : i = 0
      · have := tk.2.2.1
        rw [← i0] at this
        omega
      · have := (tk.2.2.2.2.2.1 i (by omega) hi).1
        exact anc_agr tk h k (tQ t i) (by omega)
theorem cl_fewest (h : Psi D σ) (hD : D < 2 ^ 20) (a b c : Int32) : ∃ r σ1 σ2, J_X7_fewest a b c σ = some (r, σ1) ∧ J_X8_fewest a b c σ1 = some (r, σ2) ∧ Psi D σ2 := by
  have h0 := h
  obtain ⟨Λ, s, n, o, P, T, q, K, t, h1, h2, -, -, -⟩ := h
  have hΛ := h1.2.2
  have n8 := hΛ.2.2.1
  have q1 := hΛ.sq
  have hc := h2.cc h1
  have hs := h2.2.2.1
  have hd := h2.2.2.2
  rcases i_cases a (show lNb Λ < 2 ^ 31 by omega) with ⟨x, hx, rfl⟩ | ha
  · have c0 : J_X1_hasBeast 1 (nI x) σ = some 1 := jl_hasBeast h1.1.2.2.1 n8.2 hx
    rcases i_cases b (show lSq Λ < 2 ^ 31 by omega) with ⟨y, hy, rfl⟩ | hb
    · by_cases hk : (-1 : Int32) ≤ c
      · have p36 := SOK.p36 hΛ hs hx
        by_cases e : sP s x = 36
        · have hp := h2.2.1.2.2.1 x hx
          rw [Nat.zero_add] at hp
          refine ⟨-2, σ, σ, ?_, ?_, h0⟩
          · unfold J_X7_fewest
            rw [c0, bd1_s, if_neg n10, jl_hasSquare h1.1.1 q1.2.1 hy, bd1_s, if_neg n10, if_pos hk, jc_isOff hc hx, bd1_s, if_pos e, if_neg n10]
          · unfold J_X8_fewest
            rw [jm_isBeast h1.2.1.2.2.1 n8.2 hx, bd1_s, if_neg n10, jm_isSquare h1.2.1.1 q1.2.1 hy, bd1_s, if_neg n10, if_pos hk, show (37 : Int32) + nI x = nI (37 + x) from by rw [li_37, nI_add], if_pos ((inb_nI (by omega)).mpr (by omega)), nI_clamp (n := 37 + x) (by omega), hp, if_pos (neq li_36 e)]
        · obtain ⟨σ1, r1, r2, r3⟩ := jc_from hc hx e (by omega)
          have f1 : Fs Wk σ σ1 := r3.fs fun a j z => Or.inr (Or.inl ⟨z.1, by omega⟩)
          have g1 := h1.fr f1
          have g2 := h2.fr hΛ f1
          have hp := g2.2.1.2.2.1 x hx
          rw [Nat.zero_add] at hp
          obtain ⟨σ2, t1, t2, t3⟩ := jm_strays g1.2.1 hΛ hs g2.2.1 hx e (by omega) (most := 12) (by decide)
          obtain ⟨k1, k2⟩ := allT_ok hΛ hs hx e 1000
          obtain ⟨m1, m2⟩ := allT_ok hΛ hs hx e 12
          obtain ⟨p1, p2, p3⟩ := allT_pre hΛ hs hx e 12
          obtain ⟨z1, z2, z3⟩ := fs_pre (x := y) p1 p2 p3 k2
          have fi : J_X6_first (nI y) σ1 = some (match fsK (allT Λ s x 1000) y 73 0 with
              | some i => if 12 < tF (allT Λ s x 1000) i then -4 else nI i
              | none => -4) := jc_first r2 k2 (fun i hi => by have := k1.F_le i hi; omega) (by omega) 73 0 FU rfl (by rw [FU_eq]; decide)
          have lo : J_X8_fewest_b59 FU (nI y) c (-4) (nI (tN (allT Λ s x 12)) - 1) σ2 = some (few59 (allT Λ s x 12) c (fsK (allT Λ s x 12) y 73 0), σ2) := by
            have := jm_few59 m1 t2 m2 (show y < 36 by omega) c (tN (allT Λ s x 12)) FU (Nat.le_refl _) (by rw [FU_eq]; omega)
            rw [fsK_no (fun j z1 z2 => by omega)] at this
            exact this
          have model : J_X8_fewest (nI x) (nI y) c σ1 = some (few59 (allT Λ s x 12) c (fsK (allT Λ s x 12) y 73 0), σ2) := by
            unfold J_X8_fewest
            rw [jm_isBeast g1.2.1.2.2.1 n8.2 hx, bd1_s, if_neg n10, jm_isSquare g1.2.1.1 q1.2.1 hy, bd1_s, if_neg n10, if_pos hk, show (37 : Int32) + nI x = nI (37 + x) from by rw [li_37, nI_add], if_pos ((inb_nI (by omega)).mpr (by omega)), nI_clamp (n := 37 + x) (by omega), hp, if_neg (nne li_36 (by omega) (by omega) e), show J_X8_strays (nI x) 12 σ1 = _ from t1, bd2_s, t2.1]
            exact lo
          have cls : ∀ r0 r, J_X6_first (nI y) σ1 = some r0 → (if c = -1 then J_X6_drivesTo r0 σ1 else J_X6_wayTo r0 c σ1) = some r → J_X7_fewest (nI x) (nI y) c σ = some (r, σ1) := by
            intro r0 r hr0 hr
            unfold J_X7_fewest
            rw [c0, bd1_s, if_neg n10, jl_hasSquare h1.1.1 q1.2.1 hy, bd1_s, if_neg n10, if_pos hk, jc_isOff hc hx, bd1_s, if_neg e, if_pos z00, r1, bd2_s, hr0, bd1_s]
            by_cases c1 : c = -1
            · rw [if_pos c1] at hr ⊢
              rw [hr, bd1_s]
            · rw [if_neg c1] at hr ⊢
              rw [hr, bd1_s]
          have psi := h0.fr (f1.tr (t3.mono fun _ _ z => z.wk))
          have none4 : (if c = -1 then J_X6_drivesTo (-4) σ1 else J_X6_wayTo (-4) c σ1) = some (-4) := by
            by_cases c1 : c = -1
            · rw [if_pos c1]
              unfold J_X6_drivesTo
              rw [if_pos (by decide)]
            · rw [if_neg c1]
              unfold J_X6_wayTo
              rw [FU_eq]
              show J_X6_wayTo_b5 (999999999999999 + 1) _ _ _ _ = _
              rw [J_X6_wayTo_b5, if_neg (by decide), if_pos (by decide)]
          refine ⟨_, σ1, σ2, ?_, model, psi⟩
          cases q : fsK (allT Λ s x 1000) y 73 0 with
          | none =>
            rw [q] at fi
            rw [z3 q]
            exact cls (-4) (-4) fi none4
          | some i =>
            rw [q] at fi
            obtain ⟨i1, i2, i3, i4⟩ := fsK_some 73 0 i q
            by_cases e12 : 12 < tF (allT Λ s x 1000) i
            · have fi' : J_X6_first (nI y) σ1 = some (-4) := by rw [fi]; show some (if 12 < tF (allT Λ s x 1000) i then -4 else nI i) = _; rw [if_pos e12]
              rw [z2 i q e12]
              exact cls (-4) (-4) fi' none4
            · have fi' : J_X6_first (nI y) σ1 = some (nI i) := by rw [fi]; show some (if 12 < tF (allT Λ s x 1000) i then -4 else nI i) = _; rw [if_neg e12]
              obtain ⟨y1, y2⟩ := z1 i q (by omega)
              obtain ⟨a1, a2, a3, a4⟩ := p1.2 i y2
              have fl := k1.F_le i i2
              rw [y1]
              refine cls (nI i) _ fi' ?_
              show _ = some (if c < 0 then nI (tF (allT Λ s x 12) i) else if c < nI (tF (allT Λ s x 12) i) then nI (tB (allT Λ s x 12) (ancK (allT Λ s x 12) (c.toNatClampNeg + 1) 72 i)) else -4)
              rw [← a2]
              by_cases c1 : c = -1
              · rw [if_pos c1, jc_drivesTo r2 k2 i2, c1, if_pos (by decide)]
              · have c2 : ¬ c < 0 := fun z => by
                  have h1 := Int32.lt_iff_toInt_lt.mp z
                  have h2 := Int32.le_iff_toInt_le.mp hk
                  have e0 : (0 : Int32).toInt = 0 := by decide
                  have e1 : (-1 : Int32).toInt = -1 := by decide
                  rw [e0] at h1
                  rw [e1] at h2
                  exact c1 (Int32.toInt_inj.mp (by rw [e1]; omega))
                rw [if_neg c1, if_neg c2]
                unfold J_X6_wayTo
                rcases i_cases c (show 72 < 2 ^ 31 by decide) with ⟨k, hk2, rfl⟩ | z | z
                · rw [show J_X6_wayTo_b5 FU (nI k) (nI i) 0 σ1 = _ from jc_wayTo k1 r2 k2 hk2 71 i 0 FU i2 (by omega) (by decide) (by rw [FU_eq]; decide), nI_clamp (by omega)]
                  by_cases e2 : k < tF (allT Λ s x 1000) i
                  · rw [if_pos e2, if_pos ((nI_ltI (by omega) (by omega)).mpr e2)]
                    have an : ancK (allT Λ s x 1000) (k + 1) 71 i = ancK (allT Λ s x 12) (k + 1) 72 i := by
                      have st : ∀ k2 i2, i2 < tN (allT Λ s x 12) → tF (allT Λ s x 12) i2 ≤ k2 → ancK (allT Λ s x 12) (k + 1) (k2 + 1) i2 = ancK (allT Λ s x 12) (k + 1) k2 i2 := by
                        intro k2
                        induction k2 with
                        | zero =>
                          intro i2 h3 h4
                          show (if tF (allT Λ s x 12) i2 ≤ k + 1 then i2 else ancK (allT Λ s x 12) (k + 1) 0 (tQ (allT Λ s x 12) i2)) = i2
                          rw [if_pos (by omega)]
                        | succ k2 ih =>
                          intro i2 h3 h4
                          rw [ancK]
                          by_cases e5 : tF (allT Λ s x 12) i2 ≤ k + 1
                          · rw [if_pos e5, ancK, if_pos e5]
                          · rw [if_neg e5]
                            have i21 : 1 ≤ i2 := by
                              by_cases e6 : i2 = 0
                              · have := m1.2.2.1
                                rw [← e6] at this
                                omega
                              · omega
                            obtain ⟨u1, u2, u3⟩ := m1.2.2.2.2.2.1 i2 i21 h3
                            rw [ih (tQ (allT Λ s x 12) i2) (by omega) (by omega)]
                            conv => rhs; rw [ancK, if_neg e5]
                      rw [(anc_agr m1 p1 71 i y2).1, ← st 71 i y2 (by omega)]
                    rw [an]
                    have al := (anc_agr m1 p1 (f := k + 1) 72 i y2).2
                    rw [(p1.2 _ al).2.2.2]
                  · rw [if_neg e2, if_neg (fun z => e2 ((nI_ltI (by omega) (by omega)).mp z))]
                · exact absurd z c2
                · rw [show J_X6_wayTo_b5 FU c (nI i) 0 σ1 = _ from jc_wayFar k1 r2 k2 z 71 i 0 FU i2 (by omega) (by decide) (by rw [FU_eq]; decide), if_neg (fun y => by
                    have y1 := Int32.lt_iff_toInt_lt.mp y
                    have y2 := Int32.le_iff_toInt_le.mp z
                    rw [nI_toInt (by omega)] at y1 y2
                    omega)]
      · refine ⟨-1, σ, σ, ?_, ?_, h0⟩
        · unfold J_X7_fewest
          rw [c0, bd1_s, if_neg n10, jl_hasSquare h1.1.1 q1.2.1 hy, bd1_s, if_neg n10, if_neg hk]
        · unfold J_X8_fewest
          rw [jm_isBeast h1.2.1.2.2.1 n8.2 hx, bd1_s, if_neg n10, jm_isSquare h1.2.1.1 q1.2.1 hy, bd1_s, if_neg n10, if_neg hk]
    · refine ⟨-1, σ, σ, ?_, ?_, h0⟩
      · unfold J_X7_fewest
        rw [c0, bd1_s, if_neg n10, jl_hasSquare0 h1.1.1 hb, bd1_s, if_pos z00]
      · unfold J_X8_fewest
        rw [jm_isBeast h1.2.1.2.2.1 n8.2 hx, bd1_s, if_neg n10, jm_isSquare0 h1.2.1.1 q1.1 q1.2.1 hb, bd1_s, if_pos z00]
  · refine ⟨-1, σ, σ, ?_, ?_, h0⟩
    · unfold J_X7_fewest
      rw [jl_hasBeast0 h1.1.2.2.1 ha, bd1_s, if_pos z00]
    · unfold J_X8_fewest
      rw [jm_isBeast0 h1.2.1.2.2.1 n8.1 n8.2 ha, bd1_s, if_pos z00]
def cntK (t : WT) : Nat → Nat → Nat → Nat
  | 0, _, c => c
  | k + 1, x, c => cntK t k (x + 1) (if (fsK t x 73 0).isSome = true then c + 1 else c)
theorem jc_within {t t' : WT} {most : Nat} (hm : most ≤ 6) (h : CW Λ b σ t') (hn : tN t' ≤ 72) (hF : ∀ i, i < tN t' → tF t' i < 100) (p1 : agr t t') (p2 : ∀ j, j < tN t → tF t j ≤ most) (p3 : ∀ j, tN t ≤ j → j < tN t' → most < tF t' j) : ∀ (k x c j : Nat), x + k = 36 → k < j → J_X6_squaresWithin_b4 j (nI most) (nI c) (nI x) σ = some (nI (cntK t k x c)) := by
  intro k
  induction k with
  | zero =>
    intro x c j hx hj
    obtain ⟨j, rfl⟩ : ∃ i, j = i + 1 := ⟨j - 1, by omega⟩
    rw [J_X6_squaresWithin_b4, if_pos (show (36 : Int32) ≤ nI x from by rw [li_36, nI_leI (by omega) (by omega)]; omega)]
    rfl
  | succ k ih =>
    intro x c j hx hj
    obtain ⟨j, rfl⟩ : ∃ i, j = i + 1 := ⟨j - 1, by omega⟩
    have a1 : ∀ m : Nat, nI m + (1 : Int32) = nI (m + 1) := fun m => by rw [li_1, nI_add]
    have fi : J_X6_first (nI x) σ = some (match fsK t' x 73 0 with
        | some i => if 12 < tF t' i then -4 else nI i
        | none => -4) := jc_first h hn hF (by omega) 73 0 FU rfl (by rw [FU_eq]; decide)
    obtain ⟨z1, z2, z3⟩ := fs_pre (x := x) p1 p2 p3 hn
    rw [J_X6_squaresWithin_b4, if_neg (show ¬ (36 : Int32) ≤ nI x from by rw [li_36, nI_leI (by omega) (by omega)]; omega), fi, bd1_s, a1, a1, cntK]
    cases q : fsK t' x 73 0 with
    | none =>
      rw [z3 q, if_neg (show ¬ (none : Option Nat).isSome = true by decide)]
      show (if (-4 : Int32) = -4 then (J_X6_squaresWithin_b4 j (nI most) (nI c) (nI (x + 1)) σ) else _) = _
      rw [if_pos rfl]
      exact ih (x + 1) c j (by omega) (by omega)
    | some i =>
      obtain ⟨i1, i2, i3, i4⟩ := fsK_some 73 0 i q
      have fl := hF i i2
      show (if (if 12 < tF t' i then (-4 : Int32) else nI i) = -4 then (J_X6_squaresWithin_b4 j (nI most) (nI c) (nI (x + 1)) σ) else (bd1 (J_X6_drivesTo (if 12 < tF t' i then (-4 : Int32) else nI i) σ) fun r27 => (if nI most < r27 then (J_X6_squaresWithin_b4 j (nI most) (nI c) (nI (x + 1)) σ) else (J_X6_squaresWithin_b4 j (nI most) (nI (c + 1)) (nI (x + 1)) σ)))) = _
      by_cases e12 : 12 < tF t' i
      · rw [if_pos e12, if_pos rfl, z2 i q (by omega), if_neg (show ¬ (none : Option Nat).isSome = true by decide)]
        exact ih (x + 1) c j (by omega) (by omega)
      · rw [if_neg e12, if_neg (nI_nem4 (by omega)), jc_drivesTo h hn i2, bd1_s]
        by_cases e : most < tF t' i
        · rw [if_pos ((nI_ltI (by omega) (by omega)).mpr e), z2 i q e, if_neg (show ¬ (none : Option Nat).isSome = true by decide)]
          exact ih (x + 1) c j (by omega) (by omega)
        · rw [if_neg (fun z => e ((nI_ltI (by omega) (by omega)).mp z)), (z1 i q (by omega)).1, if_pos (show (some i).isSome = true from rfl)]
          exact ih (x + 1) (c + 1) j (by omega) (by omega)
theorem fs_isSome {t : WT} {x o : Nat} (tk : TOK Λ s b o t) (hn : tN t ≤ 72) (hx : x < 36) : (fsK t x 73 0).isSome = (memT t x || memT t (x + 36)) := by
  cases q : fsK t x 73 0 with
  | none =>
    have no := fsK_none 73 0 (by omega) q
    have m1 : memT t x = false := by
      cases y : memT t x
      · rfl
      · obtain ⟨i, z1, z2⟩ := memT_iff.mp y
        exact absurd (show onX (tW t i) = x by unfold onX; rw [z2]; omega) (no i (Nat.zero_le _) z1)
    have m2 : memT t (x + 36) = false := by
      cases y : memT t (x + 36)
      · rfl
      · obtain ⟨i, z1, z2⟩ := memT_iff.mp y
        exact absurd (show onX (tW t i) = x by unfold onX; rw [z2]; omega) (no i (Nat.zero_le _) z1)
    rw [m1, m2]
    rfl
  | some i =>
    obtain ⟨i1, i2, i3, i4⟩ := fsK_some 73 0 i q
    have w72 := (tk.2.2.2.1 i i2).1
    have e := o_of w72
    rw [i3] at e
    cases y : onE (tW t i)
    · rw [y, if_neg (by decide)] at e
      rw [memT_iff.mpr ⟨i, i2, show tW t i = x by omega⟩]
      rfl
    · rw [y, if_pos rfl] at e
      rw [memT_iff.mpr ⟨i, i2, e⟩, Bool.or_true]
      rfl
theorem jm_stray48 {t : WT} {o : Nat} (tk : TOK Λ s b o t) (h : MW σ t) (hn : tN t ≤ 72) : ∀ (k x c j : Nat), x + k = 36 → k < j → J_X8_stray_b48 j (nI c) (nI x) σ = some (nI (cntK t k x c), σ) := by
  have far : ∀ m, m < 72 → (0 ≤ σ 159 m ↔ memT t m = true) := by
    intro m hm
    cases y : memT t m
    · rw [h.2.2.2 m hm y]
      exact ⟨fun z => absurd z (by decide), fun z => absurd z (by decide)⟩
    · obtain ⟨i, z1, z2⟩ := memT_iff.mp y
      have fl := tk.F_le i z1
      rw [← z2, (h.2.1 i z1).2]
      exact ⟨fun _ => rfl, fun _ => nI_ge0 (by omega)⟩
  intro k
  induction k with
  | zero =>
    intro x c j hx hj
    obtain ⟨j, rfl⟩ : ∃ i, j = i + 1 := ⟨j - 1, by omega⟩
    rw [J_X8_stray_b48, if_pos (show (36 : Int32) ≤ nI x from by rw [li_36, nI_leI (by omega) (by omega)]; omega)]
    rfl
  | succ k ih =>
    intro x c j hx hj
    obtain ⟨j, rfl⟩ : ∃ i, j = i + 1 := ⟨j - 1, by omega⟩
    have a1 : ∀ m : Nat, nI m + (1 : Int32) = nI (m + 1) := fun m => by rw [li_1, nI_add]
    rw [J_X8_stray_b48, if_neg (show ¬ (36 : Int32) ≤ nI x from by rw [li_36, nI_leI (by omega) (by omega)]; omega), if_pos ((inb_nI (by omega)).mpr (by omega)), nI_clamp (n := x) (by omega), a1, a1, cntK, fs_isSome tk hn (show x < 36 by omega)]
    by_cases e : 0 ≤ σ 159 x
    · rw [if_pos e, (far x (by omega)).mp e, Bool.true_or, if_pos rfl]
      exact ih (x + 1) (c + 1) j (by omega) (by omega)
    · have m1 : memT t x = false := by
        cases y : memT t x
        · rfl
        · exact absurd ((far x (by omega)).mpr y) e
      rw [if_neg e, show nI x + (36 : Int32) = nI (x + 36) from by rw [li_36, nI_add], if_pos ((inb_nI (by omega)).mpr (by omega)), nI_clamp (n := x + 36) (by omega), m1, Bool.false_or, ad0]
      by_cases e2 : σ 159 (x + 36) < 0
      · have m2 : memT t (x + 36) = false := by
          cases y : memT t (x + 36)
          · rfl
          · exact absurd ((far (x + 36) (by omega)).mpr y) (Int32.not_le.mpr e2)
        rw [if_pos e2, m2, if_neg (by decide)]
        exact ih (x + 1) c j (by omega) (by omega)
      · have m2 := (far (x + 36) (by omega)).mp (Int32.not_lt.mp e2)
        rw [if_neg e2, m2, if_pos rfl]
        exact ih (x + 1) (c + 1) j (by omega) (by omega)
theorem cl_stray (h : Psi D σ) (hD : D < 2 ^ 20) (a b : Int32) : ∃ r σ1 σ2, J_X7_stray a b σ = some (r, σ1) ∧ J_X8_stray a b σ1 = some (r, σ2) ∧ Psi D σ2 := by
  have h0 := h
  obtain ⟨Λ, s, n, o, P, T, q, K, t, h1, h2, -, -, -⟩ := h
  have hΛ := h1.2.2
  have n8 := hΛ.2.2.1
  have hc := h2.cc h1
  have hs := h2.2.2.1
  have hd := h2.2.2.2
  rcases i_cases a (show lNb Λ < 2 ^ 31 by omega) with ⟨x, hx, rfl⟩ | ha
  · have c0 : J_X1_hasBeast 1 (nI x) σ = some 1 := jl_hasBeast h1.1.2.2.1 n8.2 hx
    rcases i_cases b (show 7 < 2 ^ 31 by decide) with ⟨m, hm, rfl⟩ | hb
    · have i6 : ∀ σ, J_X8_in (nI m) 0 6 σ = some 1 := fun σ => jm_in1 (lo := 0) (hi := 6) (by omega) (by omega) (by omega)
      have l6 : nI m ≤ (6 : Int32) := by rw [li_6, nI_leI (by omega) (by omega)]; omega
      have p36 := SOK.p36 hΛ hs hx
      by_cases e : sP s x = 36
      · have hp := h2.2.1.2.2.1 x hx
        rw [Nat.zero_add] at hp
        refine ⟨-2, σ, σ, ?_, ?_, h0⟩
        · unfold J_X7_stray
          rw [c0, bd1_s, if_neg n10, if_neg (nI_nlt0 (by omega)), if_pos l6, jc_isOff hc hx, bd1_s, if_pos e, if_neg n10]
        · unfold J_X8_stray
          rw [jm_isBeast h1.2.1.2.2.1 n8.2 hx, bd1_s, if_neg n10, i6, bd1_s, if_neg n10, show (37 : Int32) + nI x = nI (37 + x) from by rw [li_37, nI_add], if_pos ((inb_nI (by omega)).mpr (by omega)), nI_clamp (n := 37 + x) (by omega), hp, if_pos (neq li_36 e)]
      · obtain ⟨σ1, r1, r2, r3⟩ := jc_from hc hx e (by omega)
        have f1 : Fs Wk σ σ1 := r3.fs fun a j z => Or.inr (Or.inl ⟨z.1, by omega⟩)
        have g1 := h1.fr f1
        have g2 := h2.fr hΛ f1
        have hp := g2.2.1.2.2.1 x hx
        rw [Nat.zero_add] at hp
        obtain ⟨σ2, t1, t2, t3⟩ := jm_strays g1.2.1 hΛ hs g2.2.1 hx e (by omega) (most := m) (by omega)
        obtain ⟨k1, k2⟩ := allT_ok hΛ hs hx e 1000
        obtain ⟨m1, m2⟩ := allT_ok hΛ hs hx e m
        obtain ⟨p1, p2, p3⟩ := allT_pre hΛ hs hx e m
        refine ⟨nI (cntK (allT Λ s x m) 36 0 0), σ1, σ2, ?_, ?_, h0.fr (f1.tr (t3.mono fun _ _ z => z.wk))⟩
        · unfold J_X7_stray
          rw [c0, bd1_s, if_neg n10, if_neg (nI_nlt0 (by omega)), if_pos l6, jc_isOff hc hx, bd1_s, if_neg e, if_pos z00, r1, bd2_s]
          unfold J_X6_squaresWithin
          rw [show J_X6_squaresWithin_b4 FU (nI m) 0 0 σ1 = _ from jc_within (by omega) r2 k2 (fun i hi => by have := k1.F_le i hi; omega) p1 p2 p3 36 0 0 FU rfl (by rw [FU_eq]; decide), bd1_s]
        · unfold J_X8_stray
          rw [jm_isBeast g1.2.1.2.2.1 n8.2 hx, bd1_s, if_neg n10, i6, bd1_s, if_neg n10, show (37 : Int32) + nI x = nI (37 + x) from by rw [li_37, nI_add], if_pos ((inb_nI (by omega)).mpr (by omega)), nI_clamp (n := 37 + x) (by omega), hp, if_neg (nne li_36 (by omega) (by omega) e), t1, bd2_s]
          exact jm_stray48 m1 t2 m2 36 0 0 FU rfl (by rw [FU_eq]; decide)
    · refine ⟨-1, σ, σ, ?_, ?_, h0⟩
      · unfold J_X7_stray
        rw [c0, bd1_s, if_neg n10]
        rcases hb with z | z
        · rw [if_pos z]
        · rw [if_neg (ge_n0 (by decide) z), if_neg (show ¬ b ≤ (6 : Int32) from Int32.not_le.mpr (ge_lt (m := 6) (n := 7) (by decide) (by decide) z))]
      · unfold J_X8_stray
        rw [jm_isBeast h1.2.1.2.2.1 n8.2 hx, bd1_s, if_neg n10, show J_X8_in b 0 6 σ = some 0 from jm_in0 (lo := 0) (hi := 6) (n := 7) (by decide) (by decide) (by decide) hb, bd1_s, if_pos z00]
  · refine ⟨-1, σ, σ, ?_, ?_, h0⟩
    · unfold J_X7_stray
      rw [jl_hasBeast0 h1.1.2.2.1 ha, bd1_s, if_pos z00]
    · unfold J_X8_stray
      rw [jm_isBeast0 h1.2.1.2.2.1 n8.1 n8.2 ha, bd1_s, if_pos z00]
end CALL5
