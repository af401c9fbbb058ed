/-! the text, read by the model: all items -/
section TEXT7
variable {σ : Sg} {L : Nat → Nat} {t h : Nat} {r : RT}
theorem jm_item (c : TM σ L t) (rm : RM σ r) (ok : ROK r) (e : σ 141 18 = nI h) (hh : h ≤ 200) : JT σ (J_X8_readItem σ) (itT L t r h) := by
  have F1 : Fs Rtk σ (up σ 141 18 (nI (h + 1))) := up18
  have F1m : Fs Rml σ (up σ 141 18 (nI (h + 1))) := F1.mono fun _ _ z => z.ml
  have c1 : TM (up σ 141 18 (nI (h + 1))) L t := c.fr F1m
  have rm1 : RM (up σ 141 18 (nI (h + 1))) r := rm.tk F1
  have e1 : (up σ 141 18 (nI (h + 1))) 141 18 = nI (h + 1) := up_s
  have s9 := ok.2.2.2.2.2.2.2.2.1
  have q36 := ok.q36
  unfold J_X8_readItem itT
  rw [e, jm_let c (by omega), bd1_s, show nI h + (1 : Int32) = nI (h + 1) from by rw [li_1, nI_add]]
  generalize up σ 141 18 (nI (h + 1)) = σ1 at F1 F1m c1 rm1 e1 ⊢
  have lt : ∀ v, v < 1000 → v ≠ 0 → (letM L t h = nI v ↔ chT L t h = v) := fun v h1 h2 => letM_eq c h1 h2
  obtain ⟨n1, n2⟩ := jm_num1 c1 e1 (by omega)
  by_cases q1 : chT L t h = 98
  · rw [if_pos (show letM L t h = 98 from (lt 98 (by decide) (by decide)).mpr q1), if_pos q1]
    exact JT.wrap F1m (jm_bea c1 rm1 ok e1 (by omega))
  rw [if_neg (show ¬ letM L t h = 98 from fun z => q1 ((lt 98 (by decide) (by decide)).mp z)), if_neg q1]
  by_cases q2 : chT L t h = 104
  · rw [if_pos (show letM L t h = 104 from (lt 104 (by decide) (by decide)).mpr q2), if_pos q2]
    unfold hunT
    cases y : tokT L t 59 (h + 1) with
    | none =>
      obtain ⟨σ2, a, b⟩ := n1 y
      rw [a, bd2_s, if_pos z00]
      exact JT.no rfl rfl (F1m.tr (b.mono fun _ _ z => z.ml))
    | some p =>
      obtain ⟨x, h'⟩ := p
      have g := tokT_gt y
      obtain ⟨σ2, a, b, c4, d⟩ := n2 x h' y
      have F2 : Fs Rml σ σ2 := F1m.tr (d.mono fun _ _ z => z.ml)
      rw [a, bd2_s, if_neg n10, show J_X8_isTold 0 1 9 σ2 = _ from jm_isTold (k := 0) (lo := 1) (hi := 9) (by decide) (by omega) (by decide) (by decide) b, bd1_s]
      simp only
      by_cases q : 1 ≤ x ∧ x ≤ 9
      · rw [decide_eq_true q, if_neg (show ¬ bI true = 0 from by decide), if_pos q, b]
        refine JT.yes rfl rfl ?_ ?_ (Fs.up (P := Rml) F2 (Or.inl ⟨rfl, by decide⟩))
        · obtain ⟨c0, c1, c2, c3, c4, c5, c6, c7, c8⟩ := rm1.tk d
          refine ⟨?_, ?_, ?_, ?_, ?_, ?_, fun x hx => ?_, fun b hb => ?_, fun k hk => ?_⟩
          · rw [up_i (by decide)]; exact c0
          · rw [up_i (by decide)]; exact c1
          · rw [up_i (by decide)]; exact c2
          · rw [up_i (by decide)]; exact c3
          · rw [up_s]; rfl
          · rw [up_i (by decide)]; exact c5
          · rw [up_n (by decide)]; exact c6 x hx
          · rw [up_n (by decide), up_n (by decide), up_n (by decide)]; exact c7 b hb
          · rw [up_n (by decide)]; exact c8 k hk
        · rw [up_i (by decide)]; exact c4
      · rw [decide_eq_false q, if_pos (show bI false = 0 from rfl), if_neg q]
        exact JT.no rfl rfl F2
  rw [if_neg (show ¬ letM L t h = 104 from fun z => q2 ((lt 104 (by decide) (by decide)).mp z)), if_neg q2]
  by_cases q3 : chT L t h = 114
  · rw [if_pos (show letM L t h = 114 from (lt 114 (by decide) (by decide)).mpr q3), if_pos q3]
    exact JT.wrap F1m (jm_row c1 rm1 ok e1 (by omega))
  rw [if_neg (show ¬ letM L t h = 114 from fun z => q3 ((lt 114 (by decide) (by decide)).mp z)), if_neg q3]
  by_cases q4 : chT L t h = 115
  · rw [if_pos (show letM L t h = 115 from (lt 115 (by decide) (by decide)).mpr q4), if_pos q4, rm1.2.2.2.2.2.1]
    unfold snoT
    by_cases q9 : rSn r = 9
    · rw [if_pos (neq li_9 q9)]
      refine JT.no ?_ rfl F1m
      cases y : tokT L t 59 (h + 1) with
      | none => rfl
      | some p =>
        obtain ⟨x, h'⟩ := p
        simp only
        rw [if_neg (fun z => by have := z.2; omega)]
    · rw [if_neg (nne li_9 (by omega) (by omega) q9)]
      cases y : tokT L t 59 (h + 1) with
      | none =>
        obtain ⟨σ2, a, b⟩ := n1 y
        rw [a, bd2_s, if_pos z00]
        exact JT.no rfl rfl (F1m.tr (b.mono fun _ _ z => z.ml))
      | some p =>
        obtain ⟨x, h'⟩ := p
        have g := tokT_gt y
        obtain ⟨σ2, a, b, c4, d⟩ := n2 x h' y
        have F2 : Fs Rml σ σ2 := F1m.tr (d.mono fun _ _ z => z.ml)
        have rm2 := rm1.tk d
        rw [a, bd2_s, if_neg n10, show J_X8_isTold 0 0 1 σ2 = _ from jm_isTold (k := 0) (lo := 0) (hi := 1) (by decide) (by omega) (by decide) (by decide) b, bd1_s]
        simp only
        by_cases q : x ≤ 1
        · rw [decide_eq_true (show 0 ≤ x ∧ x ≤ 1 by omega), if_neg (show ¬ bI true = 0 from by decide), rm2.2.2.2.2.2.1, if_pos ((inb_nI (by omega)).mpr (by omega)), nI_clamp (by omega), b, up_n (by decide), rm2.2.2.2.2.2.1, show nI (rSn r) + (1 : Int32) = nI (rSn r + 1) from by rw [li_1, nI_add], if_pos ⟨q, by omega⟩]
          refine JT.yes rfl rfl ?_ ?_ (Fs.up (P := Rml) (Fs.up (P := Rml) F2 (Or.inr ⟨by decide, by decide⟩)) (Or.inl ⟨rfl, by decide⟩))
          · obtain ⟨c0, c1, c2, c3, c4, c5, c6, c7, c8⟩ := rm2
            refine ⟨?_, ?_, ?_, ?_, ?_, ?_, fun x hx => ?_, fun b hb => ?_, fun k hk => ?_⟩
            · rw [up_i (by decide), up_n (by decide)]; exact c0
            · rw [up_i (by decide), up_n (by decide)]; exact c1
            · rw [up_i (by decide), up_n (by decide)]; exact c2
            · rw [up_i (by decide), up_n (by decide)]; exact c3
            · rw [up_i (by decide), up_n (by decide)]; exact c4
            · rw [up_s]; rfl
            · rw [up_n (by decide), up_n (by decide)]; exact c6 x hx
            · rw [up_n (by decide), up_n (by decide), up_n (by decide), up_n (by decide), up_n (by decide), up_n (by decide)]; exact c7 b hb
            · have hk' : k < rSn r + 1 := hk
              show _ = nI (if k = rSn r then x else rS r k)
              by_cases ek : k = rSn r
              · rw [if_pos ek, up_n (by decide), ek, up_s]
              · rw [if_neg ek, up_n (by decide), up_i ek]; exact c8 k (by omega)
          · rw [up_i (by decide), up_n (by decide)]; exact c4
        · rw [decide_eq_false (show ¬ (0 ≤ x ∧ x ≤ 1) by omega), if_pos (show bI false = 0 from rfl), if_neg (fun z => q z.1)]
          exact JT.no rfl rfl F2
  rw [if_neg (show ¬ letM L t h = 115 from fun z => q4 ((lt 115 (by decide) (by decide)).mp z)), if_neg q4]
  by_cases q5 : chT L t h = 119
  · rw [if_pos (show letM L t h = 119 from (lt 119 (by decide) (by decide)).mpr q5), if_pos q5]
    unfold welT
    cases y : tokT L t 59 (h + 1) with
    | none =>
      obtain ⟨σ2, a, b⟩ := n1 y
      rw [a, bd2_s, if_pos z00]
      exact JT.no rfl rfl (F1m.tr (b.mono fun _ _ z => z.ml))
    | some p =>
      obtain ⟨x, h'⟩ := p
      have g := tokT_gt y
      obtain ⟨σ2, a, b, c4, d⟩ := n2 x h' y
      have F2 : Fs Rml σ σ2 := F1m.tr (d.mono fun _ _ z => z.ml)
      have rm2 := rm1.tk d
      rw [a, bd2_s, if_neg n10, show J_X8_isDry 0 σ2 = _ from jm_isDry (k := 0) rm2 ok (by decide) g.2.1 b, bd1_s]
      simp only
      cases q : dryT r x with
      | true =>
        have xq : x < rQ r := by unfold dryT at q; simp at q; exact q.1
        rw [if_neg (show ¬ bI true = 0 from by decide), b, if_pos rfl]
        refine JT.yes rfl rfl ?_ ?_ (Fs.up (P := Rml) F2 (Or.inl ⟨rfl, by decide⟩))
        · obtain ⟨c0, c1, c2, c3, c4, c5, c6, c7, c8⟩ := rm2
          refine ⟨?_, ?_, ?_, ?_, ?_, ?_, fun x hx => ?_, fun b hb => ?_, fun k hk => ?_⟩
          · rw [up_i (by decide)]; exact c0
          · rw [up_i (by decide)]; exact c1
          · rw [up_i (by decide)]; exact c2
          · rw [up_s]; show nI x = plI x; rw [plI_of (by omega)]
          · rw [up_i (by decide)]; exact c4
          · rw [up_i (by decide)]; exact c5
          · rw [up_n (by decide)]; exact c6 x hx
          · rw [up_n (by decide), up_n (by decide), up_n (by decide)]; exact c7 b hb
          · rw [up_n (by decide)]; exact c8 k hk
        · rw [up_i (by decide)]; exact c4
      | false =>
        rw [if_pos (show bI false = 0 from rfl), if_neg (by decide)]
        exact JT.no rfl rfl F2
  rw [if_neg (show ¬ letM L t h = 119 from fun z => q5 ((lt 119 (by decide) (by decide)).mp z)), if_neg q5]
  exact JT.no rfl rfl F1m
theorem jm_fault9 : ∀ (k n h j : Nat) (r : RT) (σ : Sg), n + k = 201 → k < j → n ≤ h → (h ≤ 200 ∨ t ≤ h) → TM σ L t → RM σ r → ROK r → σ 141 18 = nI h → h < 2 ^ 20 → ∃ σ', J_X8_fault_b9 j σ = some (onI4 (allR L t k r h).1, σ') ∧ ((allR L t k r h).1 = none → RM σ' (allR L t k r h).2) ∧ Fs Rml σ σ' := by
  intro k
  induction k with
  | zero =>
    intro n h j r σ hi hj hn hh c rm ok e hb
    obtain ⟨j, rfl⟩ : ∃ i, j = i + 1 := ⟨j - 1, by omega⟩
    have t2 := c.2.1
    refine ⟨σ, ?_, fun _ => rm, Fs.rf⟩
    rw [J_X8_fault_b9, c.1, e, if_pos ((nI_leI (by omega) (by omega)).mpr (by omega))]
    rfl
  | succ k ih =>
    intro n h j r σ hi hj hn hh c rm ok e hb
    obtain ⟨j, rfl⟩ : ∃ i, j = i + 1 := ⟨j - 1, by omega⟩
    have t2 := c.2.1
    rw [J_X8_fault_b9, c.1, e, allR]
    by_cases q : t ≤ h
    · rw [if_pos q, if_pos ((nI_leI (by omega) (by omega)).mpr q)]
      exact ⟨σ, rfl, fun _ => rm, Fs.rf⟩
    · rw [if_neg q, if_neg (fun z => q ((nI_leI (by omega) (by omega)).mp z))]
      have it := jm_item c rm ok e (by omega)
      cases y : itT L t r h with
      | none =>
        obtain ⟨σ1, a, b⟩ := it.1 y
        rw [a, bd2_s, if_pos z00]
        exact ⟨σ1, rfl, fun z => by simp at z, b⟩
      | some p =>
        obtain ⟨r', h'⟩ := p
        obtain ⟨σ1, a, b, c4, d⟩ := it.2 r' h' y
        obtain ⟨ok', hlt⟩ := itT_ok ok y
        have hle := itT_le y
        rw [a, bd2_s, if_neg n10]
        obtain ⟨σ2, x1, x2, x3⟩ := ih (n + 1) h' j r' σ1 (by omega) (by omega) (by omega) (by omega) (c.fr d) b ok' c4 (by omega)
        exact ⟨σ2, x1, x2, d.tr x3⟩
theorem jm_clear33 : ∀ (k i j : Nat) (σ : Sg), i + k = 9 → k < j → ∃ σ', J_X8_clearTold_b33 j (nI i) σ = some ((), σ') ∧ Fr (fun a => a = 156) σ σ' := by
  intro k
  induction k with
  | zero =>
    intro i j σ hi hj
    obtain ⟨j, rfl⟩ : ∃ i, j = i + 1 := ⟨j - 1, by omega⟩
    refine ⟨σ, ?_, Fr.rf⟩
    rw [J_X8_clearTold_b33, if_pos (show (9 : Int32) ≤ nI i from by rw [li_9, nI_leI (by omega) (by omega)]; omega)]
  | succ k ih =>
    intro i j σ hi hj
    obtain ⟨j, rfl⟩ : ∃ i, j = i + 1 := ⟨j - 1, by omega⟩
    rw [J_X8_clearTold_b33, if_neg (show ¬ (9 : Int32) ≤ nI i from by rw [li_9, nI_leI (by omega) (by omega)]; omega), if_pos ((inb_nI (by omega)).mpr (by omega)), nI_clamp (by omega), show nI i + (1 : Int32) = nI (i + 1) from by rw [li_1, nI_add]]
    obtain ⟨σ', r1, r2⟩ := ih (i + 1) j (up σ 156 i 0) (by omega) (by omega)
    exact ⟨σ', r1, (Fr.up (P := fun a => a = 156) Fr.rf rfl).tr r2⟩
/-- where the text is faulty, both sides; what is told, both sides -/
def faR (L : Nat → Nat) (t : Nat) : Option Nat × RT := allR L t 201 r0 0
theorem jc_firstFault (c : TC σ L t) : ∃ σ', J_X5_firstFault σ = some (onI4 (faR L t).1, σ') ∧ ((faR L t).1 = none → RC σ' (faR L t).2 ∧ ROK (faR L t).2) ∧ Fs Rcl σ σ' := by
  unfold J_X5_firstFault J_X1_clear
  rw [bd2_s]
  have F : Fs Rcl σ (up (up (up (up (up (up (up (up (up σ 6 0 0) 6 1 0) 6 2 0) 6 3 0) 6 4 (-4)) 6 5 4) 6 6 0) 9 5 0) 4 4 0) :=
    Fs.up (P := Rcl) (Fs.up (P := Rcl) (Fs.up (P := Rcl) (Fs.up (P := Rcl) (Fs.up (P := Rcl) (Fs.up (P := Rcl) (Fs.up (P := Rcl) (Fs.up (P := Rcl) (Fs.up (P := Rcl) Fs.rf (Or.inr ⟨by decide, by decide⟩)) (Or.inr ⟨by decide, by decide⟩)) (Or.inr ⟨by decide, by decide⟩)) (Or.inr ⟨by decide, by decide⟩)) (Or.inr ⟨by decide, by decide⟩)) (Or.inr ⟨by decide, by decide⟩)) (Or.inr ⟨by decide, by decide⟩)) (Or.inr ⟨by decide, by decide⟩)) (Or.inl ⟨rfl, rfl⟩)
  have rc : RC (up (up (up (up (up (up (up (up (up σ 6 0 0) 6 1 0) 6 2 0) 6 3 0) 6 4 (-4)) 6 5 4) 6 6 0) 9 5 0) 4 4 0) r0 := by
    refine ⟨rfl, rfl, rfl, rfl, rfl, rfl, rfl, fun x hx => absurd hx (Nat.not_lt_zero x), fun b hb => absurd hb (Nat.not_lt_zero b), fun k hk => absurd hk (Nat.not_lt_zero k), rfl⟩
  obtain ⟨σ', a, b, d⟩ := jc_fault22 (L := L) (t := t) 201 0 0 FU r0 _ rfl (by rw [FU_eq]; decide) (Nat.le_refl _) (Or.inl (by decide)) (c.fr F) rc r0_ok (show (up (up (up (up (up (up (up (up (up σ 6 0 0) 6 1 0) 6 2 0) 6 3 0) 6 4 (-4)) 6 5 4) 6 6 0) 9 5 0) 4 4 0) 4 4 = nI 0 from rfl) (by decide)
  exact ⟨σ', a, b, F.tr d⟩
theorem jm_fault (c : TM σ L t) : ∃ σ', J_X8_fault σ = some (onI4 (faR L t).1, σ') ∧ ((faR L t).1 = none → RM σ' (faR L t).2) ∧ Fs Rml σ σ' := by
  unfold J_X8_fault J_X8_clearTold
  have F : Fs Rml σ (up (up (up (up (up (up (up σ 141 18 0) 141 20 0) 141 21 0) 141 23 0) 141 27 (-4)) 141 28 4) 141 29 0) :=
    Fs.up (P := Rml) (Fs.up (P := Rml) (Fs.up (P := Rml) (Fs.up (P := Rml) (Fs.up (P := Rml) (Fs.up (P := Rml) (Fs.up (P := Rml) Fs.rf (Or.inl ⟨rfl, by decide⟩)) (Or.inl ⟨rfl, by decide⟩)) (Or.inl ⟨rfl, by decide⟩)) (Or.inl ⟨rfl, by decide⟩)) (Or.inl ⟨rfl, by decide⟩)) (Or.inl ⟨rfl, by decide⟩)) (Or.inl ⟨rfl, by decide⟩)
  obtain ⟨σ1, x1, x2⟩ := jm_clear33 9 0 FU (up (up (up (up (up (up (up σ 141 18 0) 141 20 0) 141 21 0) 141 23 0) 141 27 (-4)) 141 28 4) 141 29 0) rfl (by rw [FU_eq]; decide)
  have F1 : Fs Rml σ σ1 := F.tr (x2.fs fun a j z => Or.inr ⟨by omega, by omega⟩)
  have rm : RM σ1 r0 := by
    refine ⟨?_, ?_, ?_, ?_, ?_, ?_, fun x hx => absurd hx (Nat.not_lt_zero x), fun b hb => absurd hb (Nat.not_lt_zero b), fun k hk => absurd hk (Nat.not_lt_zero k)⟩
    · rw [x2 141 (by decide)]; rfl
    · rw [x2 141 (by decide)]; rfl
    · rw [x2 141 (by decide)]; rfl
    · rw [x2 141 (by decide)]; rfl
    · rw [x2 141 (by decide)]; rfl
    · rw [x2 141 (by decide)]; rfl
  rw [show J_X8_clearTold_b33 FU 0 (up (up (up (up (up (up (up σ 141 18 0) 141 20 0) 141 21 0) 141 23 0) 141 27 (-4)) 141 28 4) 141 29 0) = _ from x1, bd2_s]
  obtain ⟨σ', a, b, d⟩ := jm_fault9 (L := L) (t := t) 201 0 0 FU r0 σ1 rfl (by rw [FU_eq]; decide) (Nat.le_refl _) (Or.inl (by decide)) (c.fr F1) rm r0_ok (by rw [x2 141 (by decide)]; rfl) (by decide)
  exact ⟨σ', a, b, F1.tr d⟩
end TEXT7
