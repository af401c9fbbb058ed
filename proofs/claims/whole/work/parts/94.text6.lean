/-! the text, read by the model: the items -/
def JT (σ : Sg) (o : Option (Int32 × Sg)) (sp : Option (RT × Nat)) : Prop := (sp = none → ∃ σ', o = some (0, σ') ∧ Fs Rml σ σ') ∧ ∀ r' h', sp = some (r', h') → ∃ σ', o = some (1, σ') ∧ RM σ' r' ∧ σ' 141 18 = nI h' ∧ Fs Rml σ σ'
section TEXT6
variable {σ : Sg} {L : Nat → Nat} {t h : Nat} {r : RT}
theorem JT.no {σ' : Sg} {o : Option (Int32 × Sg)} {sp : Option (RT × Nat)} (e : sp = none) (h1 : o = some (0, σ')) (f : Fs Rml σ σ') : JT σ o sp :=
  ⟨fun _ => ⟨σ', h1, f⟩, fun r' h' z => by rw [e] at z; simp at z⟩
theorem JT.yes {σ' : Sg} {o : Option (Int32 × Sg)} {sp : Option (RT × Nat)} {r' : RT} {h' : Nat} (e : sp = some (r', h')) (h1 : o = some (1, σ')) (c : RM σ' r') (h4 : σ' 141 18 = nI h') (f : Fs Rml σ σ') : JT σ o sp := by
  refine ⟨fun z => by rw [e] at z; simp at z, fun r2 h2 z => ?_⟩
  rw [e] at z
  have := Prod.mk.inj (Option.some.inj z)
  rw [← this.1, ← this.2]
  exact ⟨σ', h1, c, h4, f⟩
theorem JT.fr {σ0 : Sg} {o : Option (Int32 × Sg)} {sp : Option (RT × Nat)} (f : Fs Rml σ0 σ) (i : JT σ o sp) : JT σ0 o sp :=
  ⟨fun z => by obtain ⟨σ', a, b⟩ := i.1 z; exact ⟨σ', a, f.tr b⟩, fun r' h' z => by obtain ⟨σ', a, b, c, d⟩ := i.2 r' h' z; exact ⟨σ', a, b, c, f.tr d⟩⟩
theorem JT.wrap {σ0 : Sg} {o : Option (Int32 × Sg)} {sp : Option (RT × Nat)} (f : Fs Rml σ0 σ) (i : JT σ o sp) : JT σ0 (bd2 o fun r s => (if r = 0 ∨ r = 1 then some (r, s) else none)) sp := by
  refine ⟨fun z => ?_, fun r' h' z => ?_⟩
  · obtain ⟨σ', a, b⟩ := i.1 z
    exact ⟨σ', by rw [a]; rfl, f.tr b⟩
  · obtain ⟨σ', a, b, c, d⟩ := i.2 r' h' z
    exact ⟨σ', by rw [a]; rfl, b, c, f.tr d⟩
theorem jm_row25 {Q : Nat} (hQ : Q ≤ 30) (hh : h < 800) : ∀ (k i j : Nat) (σ : Sg), i + k = 6 → k < j → TM σ L t → σ 141 18 = nI (h + i) → σ 141 20 = nI Q → ∃ σ', J_X8_readRow_b25 j (nI i) σ = J_X8_readRow_b83 (nI (i + digT L t k (h + i))) σ' ∧ σ' 141 18 = nI (h + i + digT L t k (h + i)) ∧ (∀ m, i ≤ m → m < i + digT L t k (h + i) → σ' 152 (Q + m) = nI (chT L t (h + m) - 48)) ∧ Fs (fun a j => (a = 141 ∧ j = 18) ∨ (a = 152 ∧ Q + i ≤ j)) σ σ' := by
  intro k
  induction k with
  | zero =>
    intro i j σ hi hj c e e6
    obtain ⟨j, rfl⟩ : ∃ i, j = i + 1 := ⟨j - 1, by omega⟩
    refine ⟨σ, ?_, e, fun m h1 h2 => ?_, Fs.rf⟩
    · rw [J_X8_readRow_b25, e, jm_let c (by omega), bd1_s, jm_isF c, bd1_s]
      cases isF (chT L t (h + i))
      · rw [if_pos (show bI false = 0 from rfl)]; rfl
      · rw [if_neg (show ¬ bI true = 0 from by decide), if_pos (show (6 : Int32) ≤ nI i from by rw [li_6, nI_leI (by omega) (by omega)]; omega)]; rfl
    · have h2' : m < i := h2
      omega
  | succ k ih =>
    intro i j σ hi hj c e e6
    obtain ⟨j, rfl⟩ : ∃ i, j = i + 1 := ⟨j - 1, by omega⟩
    rw [J_X8_readRow_b25, e, jm_let c (by omega), bd1_s, jm_isF c, bd1_s, digT]
    cases q : isF (chT L t (h + i))
    · rw [if_pos (show bI false = 0 from rfl), if_neg (by decide)]
      exact ⟨σ, rfl, e, fun m h1 h2 => by omega, Fs.rf⟩
    · have f := isF_iff.mp q
      have e48 : (48 : Int32) = nI 48 := rfl
      rw [if_neg (show ¬ bI true = 0 from by decide), if_neg (show ¬ (6 : Int32) ≤ nI i from by rw [li_6, nI_leI (by omega) (by omega)]; omega), bd1_s, e6, nI_add, if_pos ((inb_nI (by omega)).mpr (by omega)), nI_clamp (n := Q + i) (by omega), letM_fig q, show nI (chT L t (h + i)) - (48 : Int32) = nI (chT L t (h + i) - 48) from by rw [e48, nI_subI f.1], up_n (show (141 : Nat) ≠ 152 by decide), e, show nI (h + i) + (1 : Int32) = nI (h + i + 1) from by rw [li_1, nI_add], show nI i + (1 : Int32) = nI (i + 1) from by rw [li_1, nI_add], if_pos rfl]
      have f0 : Fs Rml σ (up (up σ 152 (Q + i) (nI (chT L t (h + i) - 48))) 141 18 (nI (h + i + 1))) := Fs.up (P := Rml) (Fs.up (P := Rml) Fs.rf (Or.inr ⟨by decide, by decide⟩)) (Or.inl ⟨rfl, by decide⟩)
      obtain ⟨σ', r1, r2, r3, r4⟩ := ih (i + 1) j (up (up σ 152 (Q + i) (nI (chT L t (h + i) - 48))) 141 18 (nI (h + i + 1))) (by omega) (by omega) (c.fr f0) (by rw [up_s]; rfl) (by rw [up_i (by decide), up_n (by decide)]; exact e6)
      have en : i + 1 + digT L t k (h + (i + 1)) = i + (1 + digT L t k (h + i + 1)) := by rw [← Nat.add_assoc h i 1]; omega
      have en2 : h + (i + 1) + digT L t k (h + (i + 1)) = h + i + (1 + digT L t k (h + i + 1)) := by rw [← Nat.add_assoc h i 1]; omega
      rw [en] at r1
      rw [en2] at r2
      refine ⟨σ', r1, r2, fun m h1 h2 => ?_, ?_⟩
      · by_cases em : m = i
        · rw [em, r4 152 (Q + i) (fun z => by omega), up_n (by decide), up_s]
        · exact r3 m (by omega) (by rw [en]; exact h2)
      · refine Fs.tr (Fs.up (P := fun a j => (a = 141 ∧ j = 18) ∨ (a = 152 ∧ Q + i ≤ j)) (Fs.up (P := fun a j => (a = 141 ∧ j = 18) ∨ (a = 152 ∧ Q + i ≤ j)) Fs.rf (Or.inr ⟨rfl, Nat.le_refl _⟩)) (Or.inl ⟨rfl, rfl⟩)) (r4.mono fun a j z => by omega)
theorem jm_row (c : TM σ L t) (rm : RM σ r) (ok : ROK r) (e : σ 141 18 = nI h) (hh : h < 800) : JT σ (J_X8_readRow σ) (rowT L t r h) := by
  have ok0 := ok
  obtain ⟨o1, o2, o3, o4, o5, o6, o7, o8, o9, o10⟩ := ok
  have q36 := ok0.q36
  have w6 : rW r ≤ 6 := by
    rcases o2 with ⟨z1, z2, z3⟩ | ⟨z1, z2, z3, z4⟩ <;> omega
  have go : rR r < 6 → JT σ (J_X8_readRow_b25 FU 0 σ) (rowT L t r h) := by
    intro q
    have q30 : rQ r ≤ 30 := by
      rcases o2 with ⟨z1, z2, z3⟩ | ⟨z1, z2, z3, z4⟩
      · omega
      · rw [z4]; exact Nat.le_trans (Nat.mul_le_mul (show rR r ≤ 5 by omega) z3) (by decide)
    have hR : (rR r = 0 ↔ rQ r = 0) := by
      rcases o2 with ⟨z1, z2, z3⟩ | ⟨z1, z2, z3, z4⟩
      · exact ⟨fun _ => z2, fun _ => z1⟩
      · refine ⟨fun z => by omega, fun z => ?_⟩
        rw [z4] at z
        have := Nat.mul_pos z1 z2
        omega
    obtain ⟨σ1, r1, r2, r3, r4⟩ := jm_row25 (L := L) (t := t) (h := h) q30 hh 6 0 FU σ rfl (by rw [FU_eq]; decide) c e rm.1
    have F1 : Fs Rml σ σ1 := r4.mono fun a j z => by
      rcases z with z | z
      · exact Or.inl ⟨z.1, by omega⟩
      · exact Or.inr ⟨by omega, by omega⟩
    have rm1 : RM σ1 r := by
      obtain ⟨c0, c1, c2, c3, c4, c5, c6, c7, c8⟩ := rm
      refine ⟨?_, ?_, ?_, ?_, ?_, ?_, fun x hx => ?_, fun b hb => ?_, fun k hk => ?_⟩
      · rw [r4 _ _ (fun z => by omega)]; exact c0
      · rw [r4 _ _ (fun z => by omega)]; exact c1
      · rw [r4 _ _ (fun z => by omega)]; exact c2
      · rw [r4 _ _ (fun z => by omega)]; exact c3
      · rw [r4 _ _ (fun z => by omega)]; exact c4
      · rw [r4 _ _ (fun z => by omega)]; exact c5
      · rw [r4 _ _ (fun z => by omega)]; exact c6 x hx
      · rw [r4 _ _ (fun z => by omega), r4 _ _ (fun z => by omega), r4 _ _ (fun z => by omega)]; exact c7 b hb
      · rw [r4 _ _ (fun z => by omega)]; exact c8 k hk
    obtain ⟨d1, d2⟩ := @digT_le L t 6 h
    rw [show J_X8_readRow_b25 FU 0 σ = _ from r1, Nat.zero_add]
    rw [Nat.add_zero] at r2 r3 ⊢
    unfold rowT
    generalize hn : digT L t 6 h = n at r2 r3 d1 d2 ⊢
    have r3' : ∀ m, m < n → σ1 152 (rQ r + m) = nI (chT L t (h + m) - 48) := fun m hm => r3 m (Nat.zero_le _) (by omega)
    have b120n : ∀ sp : Option (RT × Nat), sp = none → JT σ (J_X8_readRow_b120 (nI n) 0 σ1) sp := by
      intro sp hsp
      unfold J_X8_readRow_b120
      rw [if_pos z00, if_pos (Or.inl rfl)]
      exact JT.no hsp rfl (Fs.up (P := Rml) F1 (Or.inl ⟨rfl, by decide⟩))
    unfold J_X8_readRow_b83
    by_cases q1 : n < 1
    · rw [if_pos (show nI n ≤ 0 from by rw [li_0, nI_leI (by omega) (by omega)]; omega)]
      exact b120n _ (by rw [if_neg (fun z => by have := z.2.1; omega)])
    · rw [if_neg (show ¬ nI n ≤ 0 from by rw [li_0, nI_leI (by omega) (by omega)]; omega), rm1.1, r2, jm_let (c.fr F1) (by omega), bd1_s]
      have semi : (rR r = 0 ∨ n = rW r) → JT σ (if letM L t (h + n) = 59 then J_X8_readRow_b120 (nI n) 1 σ1 else J_X8_readRow_b120 (nI n) 0 σ1) (if rR r < 6 ∧ 1 ≤ n ∧ (rR r = 0 ∨ n = rW r) ∧ chT L t (h + n) = 59 then some (((rQ r + n, n, rR r + 1, rB r, rBe r, rSn r, rWl r), (fun x => if x < rQ r then rG r x else chT L t (h + (x - rQ r)) - 48), rK r, rV r, rX r, rS r), h + n + 1) else none) := by
        intro hw
        by_cases q2 : chT L t (h + n) = 59
        · rw [if_pos (show letM L t (h + n) = 59 from (letM_eq c (v := 59) (by decide) (by decide)).mpr q2), if_pos ⟨q, by omega, hw, q2⟩]
          unfold J_X8_readRow_b120
          have e20 : (up (up σ1 141 18 (nI (h + n + 1))) 141 21 (nI n)) 141 20 = nI (rQ r) := by rw [up_i (by decide), up_i (by decide)]; exact rm1.1
          rw [if_neg n10, if_pos (Or.inr rfl), r2, show nI (h + n) + (1 : Int32) = nI (h + n + 1) from by rw [li_1, nI_add], e20, nI_add]
          refine JT.yes rfl rfl ?_ ?_ (Fs.up (P := Rml) (Fs.up (P := Rml) (Fs.up (P := Rml) F1 (Or.inl ⟨rfl, by decide⟩)) (Or.inl ⟨rfl, by decide⟩)) (Or.inl ⟨rfl, by decide⟩))
          · obtain ⟨c0, c1, c2, c3, c4, c5, c6, c7, c8⟩ := rm1
            refine ⟨?_, ?_, ?_, ?_, ?_, ?_, fun x hx => ?_, fun b hb => ?_, fun k hk => ?_⟩
            · rw [up_s]; rfl
            · rw [up_i (by decide), up_s]; rfl
            · rw [up_i (by decide), up_i (by decide), up_i (by decide)]; exact c2
            · rw [up_i (by decide), up_i (by decide), up_i (by decide)]; exact c3
            · rw [up_i (by decide), up_i (by decide), up_i (by decide)]; exact c4
            · rw [up_i (by decide), up_i (by decide), up_i (by decide)]; exact c5
            · have hx' : x < rQ r + n := hx
              show _ = nI (if x < rQ r then rG r x else chT L t (h + (x - rQ r)) - 48)
              rw [up_n (by decide), up_n (by decide), up_n (by decide)]
              by_cases ex : x < rQ r
              · rw [if_pos ex]; exact c6 x ex
              · rw [if_neg ex]
                have := r3' (x - rQ r) (by omega)
                rw [show rQ r + (x - rQ r) = x by omega] at this
                exact this
            · rw [up_n (by decide), up_n (by decide), up_n (by decide), up_n (by decide), up_n (by decide), up_n (by decide), up_n (by decide), up_n (by decide), up_n (by decide)]; exact c7 b hb
            · rw [up_n (by decide), up_n (by decide), up_n (by decide)]; exact c8 k hk
          · rw [up_i (by decide), up_i (by decide), up_s]
        · rw [if_neg (show ¬ letM L t (h + n) = 59 from fun z => q2 ((letM_eq c (v := 59) (by decide) (by decide)).mp z))]
          exact b120n _ (by rw [if_neg (fun z => q2 z.2.2.2)])
      by_cases q3 : rQ r = 0
      · rw [if_pos (neq li_0 q3)]
        exact semi (Or.inl (hR.mpr q3))
      · rw [if_neg (nne li_0 (by omega) (by omega) q3), rm1.2.1]
        by_cases q4 : n = rW r
        · rw [if_pos (by rw [q4])]
          exact semi (Or.inr q4)
        · rw [if_neg (fun z => q4 ((nI_inj (by omega) (by omega)).mp z))]
          exact b120n _ (by rw [if_neg (fun z => by rcases z.2.2.1 with y | y; exact q3 (hR.mp y); exact q4 y)])
  unfold J_X8_readRow
  rw [rm.1]
  rcases o2 with ⟨z1, z2, z3⟩ | ⟨z1, z2, z3, z4⟩
  · rw [if_pos (show nI (rQ r) ≤ 0 from by rw [z2]; decide)]
    exact go (by omega)
  · have qp := Nat.mul_pos z1 z2
    have dv : rQ r / rW r = rR r := by rw [z4]; exact Nat.mul_div_cancel _ z2
    rw [if_neg (show ¬ nI (rQ r) ≤ 0 from by rw [li_0, nI_leI (by omega) (by omega)]; omega), rm.2.1, if_neg (nne li_0 (by omega) (by omega) (by omega)), nI_div (by omega) (by omega), dv]
    by_cases q : rR r = 6
    · rw [if_pos (neq li_6 q)]
      exact JT.no (by unfold rowT; rw [if_neg (fun z => by have := z.1; omega)]) rfl Fs.rf
    · rw [if_neg (nne li_6 (by omega) (by omega) q)]
      exact go (by omega)
theorem jm_b51 {x : Nat} (rm : RM σ r) (ok : ROK r) (hx : x < 100) (e2 : σ 151 2 = nI x) : ∀ (k b j : Nat) (t : Bool), b + k = rB r → k < j → ((t = false ∨ ∃ a, b ≤ a ∧ a < rB r ∧ rX r a = x) → J_X8_readBeastItem_b51 j (bI t) (nI b) σ = some (0, σ)) ∧ ((t = true ∧ ∀ a, b ≤ a → a < rB r → rX r a ≠ x) → J_X8_readBeastItem_b51 j (bI t) (nI b) σ = (bd2 (J_X8_tellsBeast (σ 151 0) (σ 151 1) (σ 151 2) σ) fun r113 s113 => (some ((1 : Int32), s113)))) := by
  have b8 := ok.2.2.2.1
  have q36 := ok.q36
  intro k
  induction k with
  | zero =>
    intro b j t hb hj
    obtain ⟨j, rfl⟩ : ∃ i, j = i + 1 := ⟨j - 1, by omega⟩
    rw [J_X8_readBeastItem_b51, rm.2.2.1, if_pos ((nI_leI (by omega) (by omega)).mpr (by omega))]
    cases t
    · rw [if_pos (show bI false = 0 from rfl), if_pos (show bI false = 0 ∨ bI false = 1 from Or.inl rfl)]
      exact ⟨fun _ => rfl, fun z => absurd z.1 (by decide)⟩
    · rw [if_neg (show ¬ bI true = 0 from by decide)]
      refine ⟨fun z => ?_, fun _ => rfl⟩
      rcases z with z | ⟨a, z1, z2, _⟩
      · exact absurd z (by decide)
      · omega
  | succ k ih =>
    intro b j t hb hj
    obtain ⟨j, rfl⟩ : ∃ i, j = i + 1 := ⟨j - 1, by omega⟩
    have xb := (ok.2.2.2.2.1 b (by omega)).2.2.1
    have a1 : nI b + (1 : Int32) = nI (b + 1) := by rw [li_1, nI_add]
    rw [J_X8_readBeastItem_b51, rm.2.2.1, if_neg (fun z => by have := (nI_leI (by omega) (by omega)).mp z; omega), a1]
    cases t
    · rw [if_pos (show bI false = 0 from rfl)]
      exact ⟨fun _ => (ih (b + 1) j false (by omega) (by omega)).1 (Or.inl rfl), fun z => absurd z.1 (by decide)⟩
    · rw [if_neg (show ¬ bI true = 0 from by decide), if_pos ((inb_nI (by omega)).mpr (by omega)), nI_clamp (by omega), (rm.2.2.2.2.2.2.2.1 b (by omega)).2.2, e2]
      by_cases q : rX r b = x
      · rw [if_pos (by rw [q])]
        exact ⟨fun _ => (ih (b + 1) j false (by omega) (by omega)).1 (Or.inl rfl), fun z => absurd q (z.2 b (Nat.le_refl _) (by omega))⟩
      · rw [if_neg (fun z => q ((nI_inj (by omega) (by omega)).mp z))]
        obtain ⟨i1, i2⟩ := ih (b + 1) j true (by omega) (by omega)
        rw [e2] at i2
        refine ⟨fun z => i1 ?_, fun z => i2 ⟨rfl, fun a h1 h2 => z.2 a (by omega) h2⟩⟩
        rcases z with z | ⟨a, z1, z2, z3⟩
        · exact absurd z (by decide)
        · refine Or.inr ⟨a, ?_, z2, z3⟩
          by_cases ea : a = b
          · rw [ea] at z3; exact absurd z3 q
          · omega
theorem jm_tells {k v x : Nat} (rm : RM σ r) (hB : rB r < 8) (h' : Nat) (e : σ 141 18 = nI h') : ∃ σ', J_X8_tellsBeast (nI k) (nI v) (nI x) σ = some ((), σ') ∧ RM σ' ((rQ r, rW r, rR r, rB r + 1, rBe r, rSn r, rWl r), rG r, (fun a => if a = rB r then k else rK r a), (fun a => if a = rB r then v else rV r a), (fun a => if a = rB r then x else rX r a), rS r) ∧ σ' 141 18 = nI h' ∧ Fs Rml σ σ' := by
  have i8 : inb (nI (rB r)) 8 = true := (inb_nI (by omega)).mpr hB
  have c23 := rm.2.2.1
  refine ⟨up (up (up (up σ 153 (rB r) (nI k)) 154 (rB r) (nI v)) 155 (rB r) (nI x)) 141 23 (nI (rB r + 1)), ?_, ?_, ?_, Fs.up (P := Rml) (Fs.up (P := Rml) (Fs.up (P := Rml) (Fs.up (P := Rml) Fs.rf (Or.inr ⟨by decide, by decide⟩)) (Or.inr ⟨by decide, by decide⟩)) (Or.inr ⟨by decide, by decide⟩)) (Or.inl ⟨rfl, by decide⟩)⟩
  · unfold J_X8_tellsBeast
    simp only [up_n (show (141 : Nat) ≠ 153 by decide), up_n (show (141 : Nat) ≠ 154 by decide), up_n (show (141 : Nat) ≠ 155 by decide), c23, nI_clamp (show rB r < 2 ^ 31 by omega), i8, ↓reduceIte]
    rw [show nI (rB r) + (1 : Int32) = nI (rB r + 1) from by rw [li_1, nI_add]]
  · obtain ⟨c0, c1, c2, c3, c4, c5, c6, c7, c8⟩ := rm
    refine ⟨?_, ?_, ?_, ?_, ?_, ?_, fun y hy => ?_, fun b hb => ?_, fun y hy => ?_⟩
    · rw [up_i (by decide), up_n (by decide), up_n (by decide), up_n (by decide)]; exact c0
    · rw [up_i (by decide), up_n (by decide), up_n (by decide), up_n (by decide)]; exact c1
    · rw [up_s]; rfl
    · rw [up_i (by decide), up_n (by decide), up_n (by decide), up_n (by decide)]; exact c3
    · rw [up_i (by decide), up_n (by decide), up_n (by decide), up_n (by decide)]; exact c4
    · rw [up_i (by decide), up_n (by decide), up_n (by decide), up_n (by decide)]; exact c5
    · rw [up_n (by decide), up_n (by decide), up_n (by decide), up_n (by decide)]; exact c6 y hy
    · have hb' : b < rB r + 1 := hb
      show _ = nI (if b = rB r then k else rK r b) ∧ _ = nI (if b = rB r then v else rV r b) ∧ _ = nI (if b = rB r then x else rX r b)
      by_cases eb : b = rB r
      · rw [if_pos eb, if_pos eb, if_pos eb, eb]
        refine ⟨?_, ?_, ?_⟩
        · rw [up_n (by decide), up_n (by decide), up_n (by decide), up_s]
        · rw [up_n (by decide), up_n (by decide), up_s]
        · rw [up_n (by decide), up_s]
      · obtain ⟨d1, d2, d3⟩ := c7 b (by omega)
        rw [if_neg eb, if_neg eb, if_neg eb]
        refine ⟨?_, ?_, ?_⟩
        · rw [up_n (by decide), up_n (by decide), up_n (by decide), up_i eb]; exact d1
        · rw [up_n (by decide), up_n (by decide), up_i eb, up_n (by decide)]; exact d2
        · rw [up_n (by decide), up_i eb, up_n (by decide), up_n (by decide)]; exact d3
    · rw [up_n (by decide), up_n (by decide), up_n (by decide), up_n (by decide)]; exact c8 y hy
  · rw [up_i (by decide), up_n (by decide), up_n (by decide), up_n (by decide)]; exact e
theorem jm_bea (c : TM σ L t) (rm : RM σ r) (ok : ROK r) (e : σ 141 18 = nI h) (hh : h < 700) : JT σ (J_X8_readBeastItem σ) (beaT L t r h) := by
  have b8 := ok.2.2.2.1
  unfold J_X8_readBeastItem
  rw [rm.2.2.1]
  by_cases q8 : rB r = 8
  · rw [if_pos (neq li_8 q8)]
    refine JT.no ?_ rfl Fs.rf
    unfold beaT
    cases q1 : tokT L t 44 h with
    | none => rfl
    | some p1 =>
      obtain ⟨k, h1⟩ := p1
      simp only
      cases q2 : tokT L t 44 h1 with
      | none => rfl
      | some p2 =>
        obtain ⟨v, h2⟩ := p2
        simp only
        cases q3 : tokT L t 59 h2 with
        | none => rfl
        | some p3 =>
          obtain ⟨x, h3⟩ := p3
          simp only
          rw [if_neg (fun z => by have := z.2.2.1; omega)]
  · rw [if_neg (nne li_8 (by omega) (by omega) q8)]
    unfold J_X8_readNumbers
    rw [FU_eq]
    obtain ⟨a1, a2⟩ := jm_tok c e (by omega) (n := 3) (k := 0) (by decide) (by decide) (by decide) 999999999999999
    rw [if_neg (by decide)] at a1 a2
    unfold beaT
    cases q1 : tokT L t 44 h with
    | none =>
      obtain ⟨σ1, x1, x2⟩ := a1 q1
      rw [show J_X8_readNumbers_b2 1000000000000000 3 0 σ = _ from x1, bd2_s, if_pos z00]
      exact JT.no rfl rfl (x2.mono fun _ _ z => z.ml)
    | some p1 =>
      obtain ⟨k, h1⟩ := p1
      have g1 := tokT_gt q1
      have g1' := tokT_le q1
      obtain ⟨σ1, x1, x2, x3, x4, x5⟩ := a2 k h1 q1
      have c1 : TM σ1 L t := c.fr (x5.mono fun _ _ z => z.ml)
      obtain ⟨b1, b2⟩ := jm_tok c1 x4 (by omega) (n := 3) (k := 1) (by decide) (by decide) (by decide) 999999999999998
      rw [if_neg (by decide)] at b1 b2
      simp only
      cases q2 : tokT L t 44 h1 with
      | none =>
        obtain ⟨σ2, y1, y2⟩ := b1 q2
        rw [show J_X8_readNumbers_b2 1000000000000000 3 0 σ = _ from x1, show J_X8_readNumbers_b2 999999999999999 (nI 3) (nI (0 + 1)) σ1 = _ from y1, bd2_s, if_pos z00]
        exact JT.no rfl rfl ((x5.tr y2).mono fun _ _ z => z.ml)
      | some p2 =>
        obtain ⟨v, h2⟩ := p2
        have g2 := tokT_gt q2
        have g2' := tokT_le q2
        obtain ⟨σ2, y1, y2, y3, y4, y5⟩ := b2 v h2 q2
        have c2 : TM σ2 L t := c1.fr (y5.mono fun _ _ z => z.ml)
        obtain ⟨d1, d2⟩ := jm_tok c2 y4 (by omega) (n := 3) (k := 2) (by decide) (by decide) (by decide) 999999999999997
        rw [if_pos (by decide)] at d1 d2
        simp only
        cases q3 : tokT L t 59 h2 with
        | none =>
          obtain ⟨σ3, w1, w2⟩ := d1 q3
          rw [show J_X8_readNumbers_b2 1000000000000000 3 0 σ = _ from x1, show J_X8_readNumbers_b2 999999999999999 (nI 3) (nI (0 + 1)) σ1 = _ from y1, show J_X8_readNumbers_b2 999999999999998 (nI 3) (nI (1 + 1)) σ2 = _ from w1, bd2_s, if_pos z00]
          exact JT.no rfl rfl ((x5.tr (y5.tr w2)).mono fun _ _ z => z.ml)
        | some p3 =>
          obtain ⟨x, h3⟩ := p3
          have g3 := tokT_gt q3
          obtain ⟨σ3, w1, w2, w3, w4, w5⟩ := d2 x h3 q3
          have F3 : Fs Rtk σ σ3 := x5.tr (y5.tr w5)
          have rm3 := rm.tk F3
          have t0 : σ3 151 0 = nI k := by rw [w3 0 (by decide), y3 0 (by decide)]; exact x2
          have t1 : σ3 151 1 = nI v := by rw [w3 1 (by decide)]; exact y2
          rw [show J_X8_readNumbers_b2 1000000000000000 3 0 σ = _ from x1, show J_X8_readNumbers_b2 999999999999999 (nI 3) (nI (0 + 1)) σ1 = _ from y1, show J_X8_readNumbers_b2 999999999999998 (nI 3) (nI (1 + 1)) σ2 = _ from w1, show J_X8_readNumbers_b2 999999999999997 (nI 3) (nI (2 + 1)) σ3 = _ from jm_tokEnd (n := 3) (by decide) 999999999999996, bd2_s, if_neg n10, show J_X8_isTold 0 0 3 σ3 = _ from jm_isTold (k := 0) (lo := 0) (hi := 3) (by decide) (by omega) (by decide) (by decide) t0, bd1_s]
          simp only
          have F3m : Fs Rml σ σ3 := F3.mono fun _ _ z => z.ml
          by_cases e1 : k ≤ 3
          · rw [decide_eq_true (show 0 ≤ k ∧ k ≤ 3 by omega), if_neg (show ¬ bI true = 0 from by decide), show J_X8_isTold 1 0 1 σ3 = _ from jm_isTold (k := 1) (lo := 0) (hi := 1) (by decide) (by omega) (by decide) (by decide) t1, bd1_s]
            by_cases e2 : v ≤ 1
            · rw [decide_eq_true (show 0 ≤ v ∧ v ≤ 1 by omega), if_neg (show ¬ bI true = 0 from by decide), show J_X8_isDry 2 σ3 = _ from jm_isDry (k := 2) rm3 ok (by decide) g3.2.1 w2, bd1_s]
              cases e3 : dryT r x with
              | false =>
                rw [if_pos (show bI false = 0 from rfl)]
                exact JT.no (by rw [if_neg (fun z => by have := z.2.2.2.1; simp at this)]) rfl F3m
              | true =>
                rw [if_neg (show ¬ bI true = 0 from by decide)]
                obtain ⟨u1, u2⟩ := jm_b51 rm3 ok g3.2.1 w2 (rB r) 0 1000000000000000 true (by omega) (by omega)
                cases e4 : memK (rX r) x (rB r) with
                | true =>
                  obtain ⟨a, z1, z2⟩ := (memK_iff _).mp e4
                  rw [show J_X8_readBeastItem_b51 1000000000000000 1 0 σ3 = _ from u1 (Or.inr ⟨a, Nat.zero_le _, z1, z2⟩)]
                  exact JT.no (by rw [if_neg (fun z => by have := z.2.2.2.2; simp at this)]) rfl F3m
                | false =>
                  obtain ⟨σ4, s1, s2, s3, s4⟩ := jm_tells (k := k) (v := v) (x := x) rm3 (by omega) h3 w4
                  rw [show J_X8_readBeastItem_b51 1000000000000000 1 0 σ3 = _ from u2 ⟨rfl, fun a _ h2 z => by
                    have := (memK_iff (W := rX r) (o := x) (rB r)).mpr ⟨a, h2, z⟩
                    rw [e4] at this
                    exact absurd this (by decide)⟩, t0, t1, w2, s1, bd2_s, if_pos ⟨e1, e2, by omega, rfl, rfl⟩]
                  exact JT.yes rfl rfl s2 s3 (F3m.tr s4)
            · rw [decide_eq_false (show ¬ (0 ≤ v ∧ v ≤ 1) by omega), if_pos (show bI false = 0 from rfl)]
              exact JT.no (by rw [if_neg (fun z => e2 z.2.1)]) rfl F3m
          · rw [decide_eq_false (show ¬ (0 ≤ k ∧ k ≤ 3) by omega), if_pos (show bI false = 0 from rfl)]
            exact JT.no (by rw [if_neg (fun z => e1 z.1)]) rfl F3m
end TEXT6
