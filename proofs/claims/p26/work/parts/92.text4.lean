/-! the text, read by the class: rows, all items -/
section TEXT4
variable {σ : Sg} {L : Nat → Nat} {t h : Nat} {r : RT}
theorem jc_row18 {Q : Nat} (hQ : Q ≤ 30) (hh : h < 800) : ∀ (k i j : Nat) (σ : Sg), i + k = 6 → k < j → TC σ L t → σ 4 4 = nI (h + i) → σ 6 0 = nI Q → ∃ σ', J_X5_readRow_b18 j (nI i) (nI i) σ = J_X5_readRow_b81 (nI (i + digT L t k (h + i))) σ' ∧ σ' 4 4 = nI (h + i + digT L t k (h + i)) ∧ (∀ m, i ≤ m → m < i + digT L t k (h + i) → σ' 10 (Q + m) = nI (chT L t (h + m) - 48)) ∧ Fs (fun a j => (a = 4 ∧ j = 4) ∨ (a = 10 ∧ Q + i ≤ j)) σ σ' := by
  intro k
  induction k with
  | zero =>
    intro i j σ hi hj c e e6
    obtain ⟨j, rfl⟩ : ∃ i, j = i + 1 := ⟨j - 1, by omega⟩
    refine ⟨σ, ?_, e, fun m h1 h2 => ?_, Fs.rf⟩
    · rw [J_X5_readRow_b18, if_pos (show (6 : Int32) ≤ nI i from by rw [li_6, nI_leI (by omega) (by omega)]; omega)]
      rfl
    · have h2' : m < i := h2
      omega
  | succ k ih =>
    intro i j σ hi hj c e e6
    obtain ⟨j, rfl⟩ : ∃ i, j = i + 1 := ⟨j - 1, by omega⟩
    rw [J_X5_readRow_b18, if_neg (show ¬ (6 : Int32) ≤ nI i from by rw [li_6, nI_leI (by omega) (by omega)]; omega), jc_fig c e (by omega), digT]
    cases q : isF (chT L t (h + i))
    · rw [if_neg (by decide), bd2_s, if_pos (show (-4 : Int32) = -4 from rfl), if_neg (by decide)]
      exact ⟨σ, rfl, e, fun m h1 h2 => by omega, Fs.rf⟩
    · have f := isF_iff.mp q
      have e60 : (up σ 4 4 (nI (h + i + 1))) 6 0 = nI Q := by rw [up_n (by decide)]; exact e6
      rw [if_pos rfl, bd2_s, if_neg (nI_nem4 (by omega)), e60, nI_add, if_neg (nI_nlt0 (by omega)), if_pos (show nI (Q + i) < (36 : Int32) from by rw [li_36, nI_ltI (by omega) (by omega)]; omega), if_pos ((inb_nI (by omega)).mpr (by omega)), nI_clamp (by omega), show nI i + (1 : Int32) = nI (i + 1) from by rw [li_1, nI_add], if_pos rfl]
      have f0 : Fs Rcl σ (up (up σ 4 4 (nI (h + i + 1))) 10 (Q + i) (nI (chT L t (h + i) - 48))) := Fs.up (P := Rcl) up4 (Or.inr ⟨by decide, by decide⟩)
      obtain ⟨σ', r1, r2, r3, r4⟩ := ih (i + 1) j (up (up σ 4 4 (nI (h + i + 1))) 10 (Q + i) (nI (chT L t (h + i) - 48))) (by omega) (by omega) (c.fr f0) (by rw [up_n (by decide), up_s]; rfl) (by rw [up_n (by decide)]; exact e60)
      have en : i + 1 + digT L t k (h + (i + 1)) = i + (1 + digT L t k (h + i + 1)) := by rw [← Nat.add_assoc h i 1]; omega
      have en2 : h + (i + 1) + digT L t k (h + (i + 1)) = h + i + (1 + digT L t k (h + i + 1)) := by rw [← Nat.add_assoc h i 1]; omega
      rw [en] at r1
      rw [en2] at r2
      refine ⟨σ', r1, r2, fun m h1 h2 => ?_, ?_⟩
      · by_cases em : m = i
        · rw [em, r4 10 (Q + i) (fun z => by omega), up_s]
        · exact r3 m (by omega) (by rw [en]; exact h2)
      · refine Fs.tr (Fs.up (P := fun a j => (a = 4 ∧ j = 4) ∨ (a = 10 ∧ Q + i ≤ j)) (Fs.up (P := fun a j => (a = 4 ∧ j = 4) ∨ (a = 10 ∧ Q + i ≤ j)) Fs.rf (Or.inl ⟨rfl, rfl⟩)) (Or.inr ⟨rfl, Nat.le_refl _⟩)) (r4.mono fun a j z => by omega)
theorem jc_row (c : TC σ L t) (rc : RC σ r) (ok : ROK r) (e : σ 4 4 = nI h) (hh : h < 800) : IT σ (J_X5_readRow σ) (rowT L t r h) := by
  have ok0 := ok
  obtain ⟨o1, o2, o3, o4, o5, o6, o7, o8, o9, o10⟩ := ok
  have q36 := ok0.q36
  unfold J_X5_readRow
  rw [rc.2.2.1]
  by_cases q : rR r < 6
  · have q30 : rQ r ≤ 30 := by
      rcases o2 with ⟨z1, z2, z3⟩ | ⟨z1, z2, z3, z4⟩
      · omega
      · rw [z4]; exact Nat.le_trans (Nat.mul_le_mul (show rR r ≤ 5 by omega) z3) (by decide)
    obtain ⟨σ1, r1, r2, r3, r4⟩ := jc_row18 (L := L) (t := t) (h := h) q30 hh 6 0 FU σ rfl (by rw [FU_eq]; decide) c e rc.1
    have w6 : rW r ≤ 6 := by
      rcases o2 with ⟨z1, z2, z3⟩ | ⟨z1, z2, z3, z4⟩ <;> omega
    have F1 : Fs Rcl σ σ1 := r4.mono fun a j z => by
      rcases z with z | z
      · exact Or.inl z
      · exact Or.inr ⟨by omega, by omega⟩
    have rc1 : RC σ1 r := by
      obtain ⟨c0, c1, c2, c3, c4, c5, c6, c7, c8, c9, c10⟩ := rc
      refine ⟨?_, ?_, ?_, ?_, ?_, ?_, ?_, fun x hx => ?_, fun b hb => ?_, fun k hk => ?_, ?_⟩
      · rw [r4 _ _ (fun z => by omega)]; exact c0
      · rw [r4 _ _ (fun z => by omega)]; exact c1
      · rw [r4 _ _ (fun z => by omega)]; exact c2
      · rw [r4 _ _ (fun z => by omega)]; exact c3
      · rw [r4 _ _ (fun z => by omega)]; exact c4
      · rw [r4 _ _ (fun z => by omega)]; exact c5
      · rw [r4 _ _ (fun z => by omega)]; exact c6
      · rw [r4 _ _ (fun z => by omega)]; exact c7 x hx
      · rw [r4 _ _ (fun z => by omega), r4 _ _ (fun z => by omega), r4 _ _ (fun z => by omega), r4 _ _ (fun z => by omega)]; exact c8 b hb
      · rw [r4 _ _ (fun z => by omega)]; exact c9 k hk
      · rw [r4 _ _ (fun z => by omega)]; exact c10
    obtain ⟨d1, d2⟩ := @digT_le L t 6 h
    rw [if_pos (show nI (rR r) < (6 : Int32) from by rw [li_6, nI_ltI (by omega) (by omega)]; exact q), show J_X5_readRow_b18 FU 0 0 σ = _ from r1, Nat.zero_add]
    rw [Nat.add_zero] at r2 r3 ⊢
    unfold rowT
    generalize hn : digT L t 6 h = n at r2 r3 d1 d2 ⊢
    have r3' : ∀ m, m < n → σ1 10 (rQ r + m) = nI (chT L t (h + m) - 48) := fun m hm => r3 m (Nat.zero_le _) (by omega)
    unfold J_X5_readRow_b81
    by_cases q1 : n < 1
    · rw [if_pos (show nI n < (1 : Int32) from by rw [li_1, nI_ltI (by omega) (by omega)]; exact q1)]
      exact IT.no (by rw [if_neg (fun z => by have := z.2.1; omega)]) rfl F1
    · rw [if_neg (show ¬ nI n < (1 : Int32) from by rw [li_1, nI_ltI (by omega) (by omega)]; exact q1), rc1.2.2.1]
      have b107 : (rR r = 0 ∨ n = rW r) → IT σ (J_X5_readRow_b107 (nI n) σ1) (if rR r < 6 ∧ 1 ≤ n ∧ (rR r = 0 ∨ n = rW r) ∧ chT L t (h + n) = 59 then some (((rQ r + n, n, rR r + 1, rB r, rBe r, rSn r, rWl r), (fun x => if x < rQ r then rG r x else chT L t (h + (x - rQ r)) - 48), rK r, rV r, rX r, rS r), h + n + 1) else none) := by
        intro hw
        have p := jc_pas (v := 59) (c.fr F1) r2 (by omega) (by decide)
        unfold J_X5_readRow_b107
        rw [show J_X5_passes 59 σ1 = _ from p]
        by_cases q2 : chT L t (h + n) = 59
        · rw [if_pos q2, bd2_s, if_neg n10, if_pos ⟨q, by omega, hw, q2⟩]
          have rc2 : RC (up σ1 4 4 (nI (h + n + 1))) r := rc1.up4
          have e62 : (up (up σ1 4 4 (nI (h + n + 1))) 6 1 (nI n)) 6 2 = nI (rR r) := by rw [up_i (by decide)]; exact rc2.2.2.1
          have e60 : (up (up (up σ1 4 4 (nI (h + n + 1))) 6 1 (nI n)) 6 2 (nI (rR r + 1))) 6 0 = nI (rQ r) := by rw [up_i (by decide), up_i (by decide)]; exact rc2.1
          have fin : up (up (up (up σ1 4 4 (nI (h + n + 1))) 6 1 (nI n)) 6 2 (nI (rR r) + 1)) 6 0 ((up (up (up σ1 4 4 (nI (h + n + 1))) 6 1 (nI n)) 6 2 (nI (rR r) + 1)) 6 0 + nI n) = up (up (up (up σ1 4 4 (nI (h + n + 1))) 6 1 (nI n)) 6 2 (nI (rR r + 1))) 6 0 (nI (rQ r + n)) := by
            rw [show nI (rR r) + (1 : Int32) = nI (rR r + 1) from by rw [li_1, nI_add], e60, nI_add]
          rw [e62, fin]
          refine IT.yes rfl rfl ?_ ?_ (F1.tr (Fs.up (P := Rcl) (Fs.up (P := Rcl) (Fs.up (P := Rcl) up4 (Or.inr ⟨by decide, by decide⟩)) (Or.inr ⟨by decide, by decide⟩)) (Or.inr ⟨by decide, by decide⟩)))
          · obtain ⟨c0, c1, c2, c3, c4, c5, c6, c7, c8, c9, c10⟩ := rc2
            refine ⟨?_, ?_, ?_, ?_, ?_, ?_, ?_, fun x hx => ?_, fun b hb => ?_, fun k hk => ?_, ?_⟩
            · rw [up_s]; rfl
            · rw [up_i (by decide), up_i (by decide), up_s]; rfl
            · rw [up_i (by decide), up_s]; rfl
            · rw [up_i (by decide), up_i (by decide), up_i (by decide)]; exact c3
            · rw [up_i (by decide), up_i (by decide), up_i (by decide)]; exact c4
            · rw [up_i (by decide), up_i (by decide), up_i (by decide)]; exact c5
            · rw [up_i (by decide), up_i (by decide), up_i (by decide)]; exact c6
            · have hx' : x < rQ r + n := hx
              show _ = nI (if x < rQ r then rG r x else chT L t (h + (x - rQ r)) - 48)
              rw [up_n (by decide), up_n (by decide), up_n (by decide)]
              by_cases ex : x < rQ r
              · rw [if_pos ex]; exact c7 x ex
              · rw [if_neg ex, up_n (by decide)]
                have := r3' (x - rQ r) (by omega)
                rw [show rQ r + (x - rQ r) = x by omega] at this
                exact this
            · rw [up_n (by decide), up_n (by decide), up_n (by decide), up_n (by decide), up_n (by decide), up_n (by decide), up_n (by decide), up_n (by decide), up_n (by decide), up_n (by decide), up_n (by decide), up_n (by decide)]; exact c8 b hb
            · rw [up_n (by decide), up_n (by decide), up_n (by decide)]; exact c9 k hk
            · rw [up_n (by decide), up_n (by decide), up_n (by decide)]; exact c10
          · rw [up_n (by decide), up_n (by decide), up_n (by decide), up_s]
        · rw [if_neg q2, bd2_s, if_pos z00]
          exact IT.no (by rw [if_neg (fun z => q2 z.2.2.2)]) rfl F1
      by_cases q3 : rR r = 0
      · rw [if_pos (show nI (rR r) ≤ 0 from by rw [q3]; decide)]
        exact b107 (Or.inl q3)
      · rw [if_neg (show ¬ nI (rR r) ≤ 0 from by rw [li_0, nI_leI (by omega) (by omega)]; omega), rc1.2.1]
        by_cases q4 : n = rW r
        · rw [if_pos (by rw [q4])]
          exact b107 (Or.inr q4)
        · rw [if_neg (fun z => q4 ((nI_inj (by omega) (by omega)).mp z))]
          exact IT.no (by rw [if_neg (fun z => by rcases z.2.2.1 with y | y; exact q3 y; exact q4 y)]) rfl F1
  · rw [if_neg (show ¬ nI (rR r) < (6 : Int32) from by rw [li_6, nI_ltI (by omega) (by omega)]; exact q)]
    exact IT.no (by unfold rowT; rw [if_neg (fun z => q z.1)]) rfl Fs.rf
theorem IT.wrap {σ0 : Sg} {o : Option (Int32 × Sg)} {sp : Option (RT × Nat)} (f : Fs Rcl σ0 σ) (i : IT σ o sp) : IT σ0 (bd2 o fun r s => (if r = 0 ∨ r = 1 then some (r, s) else none)) sp := by
  refine ⟨fun z => ?_, fun r' h' z => ?_⟩
  · obtain ⟨σ', a, b⟩ := i.1 z
    exact ⟨σ', by rw [a]; rfl, f.tr b⟩
  · obtain ⟨σ', a, b, c, d⟩ := i.2 r' h' z
    exact ⟨σ', by rw [a]; rfl, b, c, f.tr d⟩
theorem jc_item (c : TC σ L t) (rc : RC σ r) (ok : ROK r) (e : σ 4 4 = nI h) (hh : h ≤ 200) : IT σ (J_X5_readItem σ) (itT L t r h) := by
  have cc := c.ch (h := h)
  have c1 : TC (up σ 4 4 (nI (h + 1))) L t := c.fr up4
  have rc1 : RC (up σ 4 4 (nI (h + 1))) r := rc.up4
  have e1 : (up σ 4 4 (nI (h + 1))) 4 4 = nI (h + 1) := up_s
  unfold J_X5_readItem itT
  rw [jc_let c e (by omega), bd1_s, e, show nI h + (1 : Int32) = nI (h + 1) from by rw [li_1, nI_add]]
  by_cases q1 : chT L t h = 98
  · rw [if_pos (show nI (chT L t h) = 98 from by rw [q1]; rfl), if_pos q1]
    exact IT.wrap up4 (jc_bea c1 rc1 ok e1 (by omega))
  rw [if_neg (show ¬ nI (chT L t h) = 98 from nne (k := 98) rfl (by omega) (by omega) q1), if_neg q1]
  by_cases q2 : chT L t h = 104
  · rw [if_pos (show nI (chT L t h) = 104 from by rw [q2]; rfl), if_pos q2]
    exact IT.wrap up4 (jc_hun c1 rc1 e1 (by omega))
  rw [if_neg (show ¬ nI (chT L t h) = 104 from nne (k := 104) rfl (by omega) (by omega) q2), if_neg q2]
  by_cases q3 : chT L t h = 114
  · rw [if_pos (show nI (chT L t h) = 114 from by rw [q3]; rfl), if_pos q3]
    exact IT.wrap up4 (jc_row c1 rc1 ok e1 (by omega))
  rw [if_neg (show ¬ nI (chT L t h) = 114 from nne (k := 114) rfl (by omega) (by omega) q3), if_neg q3]
  by_cases q4 : chT L t h = 115
  · rw [if_pos (show nI (chT L t h) = 115 from by rw [q4]; rfl), if_pos q4]
    exact IT.wrap up4 (jc_sno c1 rc1 ok e1 (by omega))
  rw [if_neg (show ¬ nI (chT L t h) = 115 from nne (k := 115) rfl (by omega) (by omega) q4), if_neg q4]
  by_cases q5 : chT L t h = 119
  · rw [if_pos (show nI (chT L t h) = 119 from by rw [q5]; rfl), if_pos q5]
    exact IT.wrap up4 (jc_wel c1 rc1 ok e1 (by omega))
  rw [if_neg (show ¬ nI (chT L t h) = 119 from nne (k := 119) rfl (by omega) (by omega) q5), if_neg q5]
  exact IT.no rfl rfl up4
theorem tokT_le {v a h' : Nat} (e : tokT L t v h = some (a, h')) : h' ≤ h + 3 := by
  have g := tokT_gt e
  have := @numT_le L t h
  omega
theorem itT_le {h' : Nat} {r' : RT} (e : itT L t r h = some (r', h')) : h' ≤ h + 20 := by
  unfold itT at e
  by_cases c1 : chT L t h = 98
  · rw [if_pos c1] at e
    unfold beaT at e
    cases q1 : tokT L t 44 (h + 1) with
    | none => rw [q1] at e; simp at e
    | some p1 =>
      obtain ⟨k, h1⟩ := p1
      have g1 := tokT_le q1
      rw [q1] at e
      simp only at e
      cases q2 : tokT L t 44 h1 with
      | none => rw [q2] at e; simp at e
      | some p2 =>
        obtain ⟨v, h2⟩ := p2
        have g2 := tokT_le q2
        rw [q2] at e
        simp only at e
        cases q3 : tokT L t 59 h2 with
        | none => rw [q3] at e; simp at e
        | some p3 =>
          obtain ⟨x, h3⟩ := p3
          have g3 := tokT_le q3
          rw [q3] at e
          simp only at e
          split at e
          · have := (Prod.mk.inj (Option.some.inj e)).2; omega
          · simp at e
  · rw [if_neg c1] at e
    by_cases c2 : chT L t h = 104
    · rw [if_pos c2] at e
      unfold hunT at e
      cases q1 : tokT L t 59 (h + 1) with
      | none => rw [q1] at e; simp at e
      | some p1 =>
        obtain ⟨k, h1⟩ := p1
        have g1 := tokT_le q1
        rw [q1] at e
        simp only at e
        split at e
        · have := (Prod.mk.inj (Option.some.inj e)).2; omega
        · simp at e
    · rw [if_neg c2] at e
      by_cases c3 : chT L t h = 114
      · rw [if_pos c3] at e
        unfold rowT at e
        have d := (@digT_le L t 6 (h + 1)).1
        split at e
        · have := (Prod.mk.inj (Option.some.inj e)).2; omega
        · simp at e
      · rw [if_neg c3] at e
        by_cases c4 : chT L t h = 115
        · rw [if_pos c4] at e
          unfold snoT at e
          cases q1 : tokT L t 59 (h + 1) with
          | none => rw [q1] at e; simp at e
          | some p1 =>
            obtain ⟨k, h1⟩ := p1
            have g1 := tokT_le q1
            rw [q1] at e
            simp only at e
            split at e
            · have := (Prod.mk.inj (Option.some.inj e)).2; omega
            · simp at e
        · rw [if_neg c4] at e
          by_cases c5 : chT L t h = 119
          · rw [if_pos c5] at e
            unfold welT at e
            cases q1 : tokT L t 59 (h + 1) with
            | none => rw [q1] at e; simp at e
            | some p1 =>
              obtain ⟨k, h1⟩ := p1
              have g1 := tokT_le q1
              rw [q1] at e
              simp only at e
              split at e
              · have := (Prod.mk.inj (Option.some.inj e)).2; omega
              · simp at e
          · rw [if_neg c5] at e; simp at e
/-- the whole text: where the first faulty item begins, or what is told -/
def allR (L : Nat → Nat) (t : Nat) : Nat → RT → Nat → Option Nat × RT
  | 0, r, _ => (none, r)
  | k + 1, r, h => if t ≤ h then (none, r) else match itT L t r h with
    | none => (some h, r)
    | some (r', h') => allR L t k r' h'
def r0 : RT := ((0, 0, 0, 0, 4, 0, 36), fun _ => 0, fun _ => 0, fun _ => 0, fun _ => 0, fun _ => 0)
theorem r0_ok : ROK r0 := ⟨by decide, Or.inl ⟨rfl, rfl, rfl⟩, fun x hx => absurd hx (Nat.not_lt_zero x), by decide, fun b hb => absurd hb (Nat.not_lt_zero b), fun a b ha => absurd ha (Nat.not_lt_zero a), Or.inl rfl, by decide, by decide, fun k hk => absurd hk (Nat.not_lt_zero k)⟩
theorem jc_fault22 : ∀ (k n h j : Nat) (r : RT) (σ : Sg), n + k = 201 → k < j → n ≤ h → (h ≤ 200 ∨ t ≤ h) → TC σ L t → RC σ r → ROK r → σ 4 4 = nI h → h < 2 ^ 20 → ∃ σ', J_X5_firstFault_b22 j (nI n) σ = some (onI4 (allR L t k r h).1, σ') ∧ ((allR L t k r h).1 = none → RC σ' (allR L t k r h).2 ∧ ROK (allR L t k r h).2) ∧ Fs Rcl σ σ' := by
  intro k
  induction k with
  | zero =>
    intro n h j r σ hi hj hn hh c rc ok e hb
    obtain ⟨j, rfl⟩ : ∃ i, j = i + 1 := ⟨j - 1, by omega⟩
    refine ⟨σ, ?_, fun _ => ⟨rc, ok⟩, Fs.rf⟩
    rw [J_X5_firstFault_b22, if_pos (show (200 : Int32) ≤ nI n from by rw [li_200, nI_leI (by omega) (by omega)]; omega)]
    rfl
  | succ k ih =>
    intro n h j r σ hi hj hn hh c rc ok e hb
    obtain ⟨j, rfl⟩ : ∃ i, j = i + 1 := ⟨j - 1, by omega⟩
    have t2 := c.2.1
    rw [J_X5_firstFault_b22, c.1, e, allR]
    by_cases q : t ≤ h
    · rw [if_pos q]
      refine ⟨σ, ?_, fun _ => ⟨rc, ok⟩, Fs.rf⟩
      by_cases q2 : (200 : Int32) ≤ nI n
      · rw [if_pos q2]; rfl
      · rw [if_neg q2, if_pos ((nI_leI (by omega) (by omega)).mpr q)]; rfl
    · rw [if_neg q, if_neg (show ¬ (200 : Int32) ≤ nI n from by rw [li_200, nI_leI (by omega) (by omega)]; omega), if_neg (fun z => q ((nI_leI (by omega) (by omega)).mp z))]
      have it := jc_item c rc ok e (by omega)
      cases y : itT L t r h with
      | none =>
        obtain ⟨σ1, a, b⟩ := it.1 y
        rw [a, bd2_s, if_pos z00]
        exact ⟨σ1, rfl, fun z => by simp at z, b⟩
      | some p =>
        obtain ⟨r', h'⟩ := p
        obtain ⟨σ1, a, b, c4, d⟩ := it.2 r' h' y
        obtain ⟨ok', hlt⟩ := itT_ok ok y
        rw [a, bd2_s, if_neg n10, show nI n + (1 : Int32) = nI (n + 1) from by rw [li_1, nI_add]]
        have hb' : h' < 2 ^ 20 ∧ (h' ≤ 200 ∨ t ≤ h') := by
          by_cases z : h' ≤ 200
          · exact ⟨by omega, Or.inl z⟩
          · have := itT_le y
            exact ⟨by omega, Or.inr (by omega)⟩
        obtain ⟨σ2, x1, x2, x3⟩ := ih (n + 1) h' j r' σ1 (by omega) (by omega) (by omega) hb'.2 (c.fr d) b ok' c4 hb'.1
        exact ⟨σ2, x1, x2, d.tr x3⟩
end TEXT4
