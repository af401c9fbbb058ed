/-! the text, read by the class: the items -/
def IT (σ : Sg) (o : Option (Int32 × Sg)) (sp : Option (RT × Nat)) : Prop := (sp = none → ∃ σ', o = some (0, σ') ∧ Fs Rcl σ σ') ∧ ∀ r' h', sp = some (r', h') → ∃ σ', o = some (1, σ') ∧ RC σ' r' ∧ σ' 4 4 = nI h' ∧ Fs Rcl σ σ'
section TEXT3
variable {σ : Sg} {L : Nat → Nat} {t h : Nat} {r : RT}
theorem IT.no {σ' : Sg} {o : Option (Int32 × Sg)} {sp : Option (RT × Nat)} (e : sp = none) (h1 : o = some (0, σ')) (f : Fs Rcl σ σ') : IT σ o sp :=
  ⟨fun _ => ⟨σ', h1, f⟩, fun r' h' z => by rw [e] at z; simp at z⟩
theorem IT.yes {σ' : Sg} {o : Option (Int32 × Sg)} {sp : Option (RT × Nat)} {r' : RT} {h' : Nat} (e : sp = some (r', h')) (h1 : o = some (1, σ')) (c : RC σ' r') (h4 : σ' 4 4 = nI h') (f : Fs Rcl σ σ') : IT σ o sp := by
  refine ⟨fun z => by rw [e] at z; simp at z, fun r2 h2 z => ?_⟩
  rw [e] at z
  have := Prod.mk.inj (Option.some.inj z)
  rw [← this.1, ← this.2]
  exact ⟨σ', h1, c, h4, f⟩
theorem IT.fr {σ0 : Sg} {o : Option (Int32 × Sg)} {sp : Option (RT × Nat)} (f : Fs Rcl σ0 σ) (i : IT σ o sp) : IT σ0 o sp :=
  ⟨fun z => by obtain ⟨σ', a, b⟩ := i.1 z; exact ⟨σ', a, f.tr b⟩, fun r' h' z => by obtain ⟨σ', a, b, c, d⟩ := i.2 r' h' z; exact ⟨σ', a, b, c, f.tr d⟩⟩
theorem jc_wel (c : TC σ L t) (rc : RC σ r) (ok : ROK r) (e : σ 4 4 = nI h) (hh : h < 900) : IT σ (J_X5_readWell σ) (welT L t r h) := by
  obtain ⟨σ1, r8, σ2, n1, n2, n3⟩ := jc_tok (v := 59) c e hh (by decide)
  unfold J_X5_readWell
  rw [n1, bd2_s, show J_X5_passes 59 σ1 = _ from n2, bd2_s]
  rcases n3 with ⟨a, h', k1, k2, k3, k4, k5, k6⟩ | ⟨k1, k2, k3, h', k6, k4⟩
  · rw [k3, if_neg n10, k2, k4]
    obtain ⟨v, v1, v2⟩ := jc_dry (rc.up4 (v := nI h')) ok (show a < 1000 by omega)
    have v1' : J_X2_grassOn 9 (onI4 (some a)) (up σ 4 4 (nI h')) = some v := v1
    rw [v1', bd1_s]
    have sp : welT L t r h = if dryT r a = true then some (((rQ r, rW r, rR r, rB r, rBe r, rSn r, a), rG r, rK r, rV r, rX r, rS r), h') else none := by unfold welT; rw [k1]
    by_cases q : v = 9
    · rw [if_pos q]
      exact IT.no (by rw [sp, v2.mp q, if_neg (by decide)]) rfl up4
    · have dr : dryT r a = true := by
        cases y : dryT r a
        · exact absurd (v2.mpr y) q
        · rfl
      have aq : a < rQ r := by unfold dryT at dr; simp at dr; exact dr.1
      have q36 := ok.q36
      rw [if_neg q]
      refine IT.yes (σ' := up (up σ 4 4 (nI h')) 6 4 (nI a)) (by rw [sp, dr, if_pos rfl]) rfl ?_ ?_ (Fs.up (P := Rcl) up4 (Or.inr ⟨by decide, by decide⟩))
      · obtain ⟨c0, c1, c2, c3, c4, c5, c6, c7, c8, c9, c10⟩ := rc.up4 (v := nI h')
        refine ⟨?_, ?_, ?_, ?_, ?_, ?_, ?_, fun x hx => ?_, fun b hb => ?_, fun k hk => ?_, ?_⟩
        · rw [up_i (by decide)]; exact c0
        · rw [up_i (by decide)]; exact c1
        · rw [up_i (by decide)]; exact c2
        · rw [up_i (by decide)]; exact c3
        · rw [up_s]; show nI a = plI a; rw [plI_of (by omega)]
        · rw [up_i (by decide)]; exact c5
        · rw [up_i (by decide)]; exact c6
        · rw [up_n (by decide)]; exact c7 x hx
        · rw [up_n (by decide), up_n (by decide), up_n (by decide), up_n (by decide)]; exact c8 b hb
        · rw [up_n (by decide)]; exact c9 k hk
        · rw [up_n (by decide)]; exact c10
      · rw [up_n (by decide), up_s]
  · have sp : welT L t r h = none := by unfold welT; rw [k1]
    rcases k2 with k2 | k2
    · rw [k2, if_pos z00, k4]
      exact IT.no sp rfl up4
    · rw [k2, k4]
      rcases k3 with k3 | k3
      · rw [k3, if_pos z00]
        exact IT.no sp rfl up4
      · rw [k3, if_neg n10, show J_X2_grassOn 9 (onI4 none) (up σ 4 4 (nI h')) = some 9 from jc_grassOff (by decide), bd1_s, if_pos rfl]
        exact IT.no sp rfl up4
theorem jc_hun (c : TC σ L t) (rc : RC σ r) (e : σ 4 4 = nI h) (hh : h < 900) : IT σ (J_X5_readHunger σ) (hunT L t r h) := by
  obtain ⟨σ1, r8, σ2, n1, n2, n3⟩ := jc_tok (v := 59) c e hh (by decide)
  unfold J_X5_readHunger
  rw [n1, bd2_s, show J_X5_passes 59 σ1 = _ from n2, bd2_s]
  rcases n3 with ⟨a, h', k1, k2, k3, k4, k5, k6⟩ | ⟨k1, k2, k3, h', k6, k4⟩
  · rw [k3, if_neg n10, k2, k4]
    have sp : hunT L t r h = if 1 ≤ a ∧ a ≤ 9 then some (((rQ r, rW r, rR r, rB r, a, rSn r, rWl r), rG r, rK r, rV r, rX r, rS r), h') else none := by unfold hunT; rw [k1]
    show IT σ (if nI a < 1 then _ else if nI a ≤ 9 then _ else _) _
    by_cases q1 : a < 1
    · rw [if_pos (show nI a < 1 from by rw [li_1, nI_ltI (by omega) (by omega)]; exact q1)]
      exact IT.no (by rw [sp, if_neg (by omega)]) rfl up4
    · rw [if_neg (show ¬ nI a < 1 from by rw [li_1, nI_ltI (by omega) (by omega)]; exact q1)]
      by_cases q2 : a ≤ 9
      · rw [if_pos (show nI a ≤ 9 from by rw [li_9, nI_leI (by omega) (by omega)]; exact q2)]
        refine IT.yes (σ' := up (up σ 4 4 (nI h')) 6 5 (nI a)) (by rw [sp, if_pos (by omega)]) rfl ?_ ?_ (Fs.up (P := Rcl) up4 (Or.inr ⟨by decide, by decide⟩))
        · obtain ⟨c0, c1, c2, c3, c4, c5, c6, c7, c8, c9, c10⟩ := rc.up4 (v := nI h')
          refine ⟨?_, ?_, ?_, ?_, ?_, ?_, ?_, fun x hx => ?_, fun b hb => ?_, fun k hk => ?_, ?_⟩
          · rw [up_i (by decide)]; exact c0
          · rw [up_i (by decide)]; exact c1
          · rw [up_i (by decide)]; exact c2
          · rw [up_i (by decide)]; exact c3
          · rw [up_i (by decide)]; exact c4
          · rw [up_s]; rfl
          · rw [up_i (by decide)]; exact c6
          · rw [up_n (by decide)]; exact c7 x hx
          · rw [up_n (by decide), up_n (by decide), up_n (by decide), up_n (by decide)]; exact c8 b hb
          · rw [up_n (by decide)]; exact c9 k hk
          · rw [up_n (by decide)]; exact c10
        · rw [up_n (by decide), up_s]
      · rw [if_neg (show ¬ nI a ≤ 9 from by rw [li_9, nI_leI (by omega) (by omega)]; exact q2)]
        exact IT.no (by rw [sp, if_neg (by omega)]) rfl up4
  · have sp : hunT L t r h = none := by unfold hunT; rw [k1]
    rcases k2 with k2 | k2
    · rw [k2, if_pos z00, k4]
      exact IT.no sp rfl up4
    · rw [k2, k4]
      rcases k3 with k3 | k3
      · rw [k3, if_pos z00]
        exact IT.no sp rfl up4
      · rw [k3, if_neg n10, if_pos (show onI4 none < 1 from by decide)]
        exact IT.no sp rfl up4
theorem jc_sno (c : TC σ L t) (rc : RC σ r) (ok : ROK r) (e : σ 4 4 = nI h) (hh : h < 900) : IT σ (J_X5_readSnow σ) (snoT L t r h) := by
  obtain ⟨σ1, r8, σ2, n1, n2, n3⟩ := jc_tok (v := 59) c e hh (by decide)
  have s9 := ok.2.2.2.2.2.2.2.2.1
  unfold J_X5_readSnow
  rw [n1, bd2_s, show J_X5_passes 59 σ1 = _ from n2, bd2_s]
  rcases n3 with ⟨a, h', k1, k2, k3, k4, k5, k6⟩ | ⟨k1, k2, k3, h', k6, k4⟩
  · rw [k3, if_neg n10, k2, k4]
    have sp : snoT L t r h = if a ≤ 1 ∧ rSn r < 9 then some (((rQ r, rW r, rR r, rB r, rBe r, rSn r + 1, rWl r), rG r, rK r, rV r, rX r, (fun k => if k = rSn r then a else rS r k)), h') else none := by unfold snoT; rw [k1]
    have c66 : (up σ 4 4 (nI h')) 6 6 = nI (rSn r) := (rc.up4 (v := nI h')).2.2.2.2.2.2.1
    rw [c66, if_neg (show ¬ onI4 (some a) < 0 from nI_nlt0 (by omega))]
    by_cases q1 : a ≤ 1
    · rw [if_neg (show ¬ (1 : Int32) < onI4 (some a) from by show ¬ (1 : Int32) < nI a; rw [li_1, nI_ltI (by omega) (by omega)]; omega), if_neg (nI_nlt0 (by omega))]
      by_cases q2 : rSn r < 9
      · rw [if_pos (show nI (rSn r) < (9 : Int32) from by rw [li_9, nI_ltI (by omega) (by omega)]; exact q2), if_pos ((inb_nI (by omega)).mpr q2), nI_clamp (by omega), up_n (by decide), c66, show nI (rSn r) + (1 : Int32) = nI (rSn r + 1) from by rw [li_1, nI_add]]
        refine IT.yes (σ' := up (up (up σ 4 4 (nI h')) 8 (rSn r) (nI a)) 6 6 (nI (rSn r + 1))) (by rw [sp, if_pos ⟨q1, q2⟩]) rfl ?_ ?_ (Fs.up (P := Rcl) (Fs.up (P := Rcl) up4 (Or.inr ⟨by decide, by decide⟩)) (Or.inr ⟨by decide, by decide⟩))
        · obtain ⟨c0, c1, c2, c3, c4, c5, c6, c7, c8, c9, c10⟩ := rc.up4 (v := nI h')
          refine ⟨?_, ?_, ?_, ?_, ?_, ?_, ?_, fun x hx => ?_, fun b hb => ?_, fun k hk => ?_, ?_⟩
          · rw [up_i (by decide), up_n (by decide)]; exact c0
          · rw [up_i (by decide), up_n (by decide)]; exact c1
          · rw [up_i (by decide), up_n (by decide)]; exact c2
          · rw [up_i (by decide), up_n (by decide)]; exact c3
          · rw [up_i (by decide), up_n (by decide)]; exact c4
          · rw [up_i (by decide), up_n (by decide)]; exact c5
          · rw [up_s]; rfl
          · rw [up_n (by decide), up_n (by decide)]; exact c7 x hx
          · rw [up_n (by decide), up_n (by decide), up_n (by decide), up_n (by decide), up_n (by decide), up_n (by decide), up_n (by decide), up_n (by decide)]; exact c8 b hb
          · have hk' : k < rSn r + 1 := hk
            show _ = nI (if k = rSn r then a else rS r k)
            by_cases ek : k = rSn r
            · rw [if_pos ek, up_n (by decide), ek, up_s]
            · rw [if_neg ek, up_n (by decide), up_i ek]; exact c9 k (by omega)
          · rw [up_n (by decide), up_n (by decide)]; exact c10
        · rw [up_n (by decide), up_n (by decide), up_s]
      · rw [if_neg (show ¬ nI (rSn r) < (9 : Int32) from by rw [li_9, nI_ltI (by omega) (by omega)]; exact q2)]
        exact IT.no (by rw [sp, if_neg (fun z => q2 z.2)]) rfl up4
    · rw [if_pos (show (1 : Int32) < onI4 (some a) from by show (1 : Int32) < nI a; rw [li_1, nI_ltI (by omega) (by omega)]; omega)]
      exact IT.no (by rw [sp, if_neg (fun z => q1 z.1)]) rfl up4
  · have sp : snoT L t r h = none := by unfold snoT; rw [k1]
    rcases k2 with k2 | k2
    · rw [k2, if_pos z00, k4]
      exact IT.no sp rfl up4
    · rw [k2, k4]
      rcases k3 with k3 | k3
      · rw [k3, if_pos z00]
        exact IT.no sp rfl up4
      · rw [k3, if_neg n10, if_pos (show onI4 none < 0 from by decide)]
        exact IT.no sp rfl up4
/-- a beast: behind its village -/
theorem jc_b35n (c : TC σ L t) (e : σ 4 4 = nI h) (hh : h < 900) (x1 x3 w : Int32) (hw : w = 0 ∨ x1 < 0 ∨ x3 = -4) : ∃ σ', J_X5_readBeast_b35 x1 x3 w σ = some (0, σ') ∧ Fs Rcl σ σ' := by
  obtain ⟨σ1, r8, σ2, n1, n2, n3⟩ := jc_tok (v := 59) c e hh (by decide)
  have f1 : Fs Rcl σ σ1 := by
    have := jc_num c e hh
    rw [n1] at this
    have := (Prod.mk.inj (Option.some.inj this)).2
    rw [this]; exact up4
  have f2 : Fs Rcl σ σ2 := by
    rcases n3 with ⟨a, h', k1, k2, k3, k4, k5, k6⟩ | ⟨k1, k2, k3, h', k6, k4⟩
    · rw [k4]; exact up4
    · rw [k4]; exact up4
  have r01 : r8 = 0 ∨ r8 = 1 := by
    rcases n3 with ⟨a, h', k1, k2, k3, k4, k5, k6⟩ | ⟨k1, k2, k3, h', k6, k4⟩
    · exact Or.inr k3
    · exact k3
  unfold J_X5_readBeast_b35
  rw [n1, bd2_s]
  by_cases q : w = 0
  · rw [if_pos q]
    exact ⟨σ1, rfl, f1⟩
  · rw [if_neg q, show J_X5_passes 59 σ1 = _ from n2, bd2_s]
    rcases r01 with z | z
    · rw [z, if_pos z00]; exact ⟨σ2, rfl, f2⟩
    · rw [z, if_neg n10]
      by_cases q1 : x1 < 0
      · rw [if_pos q1]; exact ⟨σ2, rfl, f2⟩
      · rw [if_neg q1]
        by_cases q2 : (3 : Int32) < x1
        · rw [if_pos q2]; exact ⟨σ2, rfl, f2⟩
        · have x3e : x3 = -4 := by
            rcases hw with y | y | y
            · exact absurd y q
            · exact absurd y q1
            · exact y
          rw [if_neg q2, x3e, show J_X7_isVillage (-4) σ2 = some 0 from rfl, bd1_s, if_pos z00]
          exact ⟨σ2, rfl, f2⟩
theorem jc_b35 (c : TC σ L t) (rc : RC σ r) (ok : ROK r) (e : σ 4 4 = nI h) (hh : h < 900) {k v : Nat} (hk : k < 100) (hv : v < 100) : IT σ (J_X5_readBeast_b35 (nI k) (nI v) 1 σ) (match tokT L t 59 h with
      | none => none
      | some (x, h3) => if k ≤ 3 ∧ v ≤ 1 ∧ rB r < 8 ∧ dryT r x = true ∧ memK (rX r) x (rB r) = false then some (((rQ r, rW r, rR r, rB r + 1, rBe r, rSn r, rWl r), rG r, (fun a => if a = rB r then k else rK r a), (fun a => if a = rB r then v else rV r a), (fun a => if a = rB r then x else rX r a), rS r), h3) else none) := by
  obtain ⟨σ1, r8, σ2, n1, n2, n3⟩ := jc_tok (v := 59) c e hh (by decide)
  have b8 := ok.2.2.2.1
  have q36 := ok.q36
  unfold J_X5_readBeast_b35
  rw [n1, bd2_s, if_neg n10, show J_X5_passes 59 σ1 = _ from n2, bd2_s]
  rcases n3 with ⟨x, h', k1, k2, k3, k4, k5, k6⟩ | ⟨k1, k2, k3, h', k6, k4⟩
  · rw [k3, if_neg n10, k2, k4, k1, if_neg (nI_nlt0 (by omega))]
    show IT σ _ (if k ≤ 3 ∧ v ≤ 1 ∧ rB r < 8 ∧ dryT r x = true ∧ memK (rX r) x (rB r) = false then some (((rQ r, rW r, rR r, rB r + 1, rBe r, rSn r, rWl r), rG r, (fun a => if a = rB r then k else rK r a), (fun a => if a = rB r then v else rV r a), (fun a => if a = rB r then x else rX r a), rS r), h') else none)
    by_cases q1 : k ≤ 3
    · rw [if_neg (show ¬ (3 : Int32) < nI k from by rw [li_3, nI_ltI (by omega) (by omega)]; omega)]
      have c63 : (up σ 4 4 (nI h')) 6 3 = nI (rB r) := (rc.up4 (v := nI h')).2.2.2.1
      by_cases q2 : v ≤ 1
      · have iv : J_X7_isVillage (nI v) (up σ 4 4 (nI h')) = some 1 := by
          unfold J_X7_isVillage
          rcases (show v = 0 ∨ v = 1 by omega) with z | z
          · rw [z, if_pos (show nI 0 = 0 from rfl)]
          · rw [z, if_neg (show ¬ nI 1 = 0 from by decide), if_pos (show nI 1 = 1 from rfl)]
        rw [iv, bd1_s, if_neg n10, c63, if_neg (nI_nlt0 (by omega))]
        by_cases q3 : rB r < 8
        · rw [if_neg (show ¬ (8 : Int32) ≤ nI (rB r) from by rw [li_8, nI_leI (by omega) (by omega)]; omega)]
          obtain ⟨g, g1, g2⟩ := jc_dry (rc.up4 (v := nI h')) ok (show x < 1000 by omega)
          have g1' : J_X2_grassOn 9 (onI4 (some x)) (up σ 4 4 (nI h')) = some g := g1
          rw [g1', bd1_s]
          by_cases q4 : g = 9
          · rw [if_pos q4]
            exact IT.no (by rw [if_neg (fun z => by rw [g2.mp q4] at z; simp at z)]) rfl up4
          · have dr : dryT r x = true := by
              cases y : dryT r x
              · exact absurd (g2.mpr y) q4
              · rfl
            have xq : x < rQ r := by unfold dryT at dr; simp at dr; exact dr.1
            obtain ⟨o, o1, o2⟩ := jc_rocc (rc.up4 (v := nI h')) ok (show x < 36 by omega)
            have o1' : J_X2_occupant 9 (onI4 (some x)) (up σ 4 4 (nI h')) = some o := o1
            rw [if_neg q4, o1', bd1_s]
            by_cases q5 : o = -4
            · have i8 : inb (nI (rB r)) 8 = true := (inb_nI (by omega)).mpr q3
              have pu : J_X2_put 9 (nI (rB r)) (nI x) (nI k) (up (up (up (up σ 4 4 (nI h')) 6 3 (nI (rB r + 1))) 7 (rB r) (nI v)) 13 (rB r) 0) = some ((), up (up (up (up (up (up σ 4 4 (nI h')) 6 3 (nI (rB r + 1))) 7 (rB r) (nI v)) 13 (rB r) 0) 11 (rB r) (nI x)) 12 (rB r) (nI k)) :=
                jc_put (c := 9) (Λ := ((0, 0, rB r + 1, 0, 0, 0), id, id, id, id)) (by
                  show (up (up (up (up σ 4 4 (nI h')) 6 3 (nI (rB r + 1))) 7 (rB r) (nI v)) 13 (rB r) 0) 6 3 = nI (rB r + 1)
                  rw [up_n (by decide), up_n (by decide), up_s]) (show rB r + 1 ≤ 8 by omega) (show rB r < rB r + 1 by omega)
              rw [if_pos q5, if_pos i8, if_pos i8, nI_clamp (by omega), show nI (rB r) + (1 : Int32) = nI (rB r + 1) from by rw [li_1, nI_add]]
              show IT σ (bd2 (J_X2_put 9 (nI (rB r)) (nI x) (nI k) (up (up (up (up σ 4 4 (nI h')) 6 3 (nI (rB r + 1))) 7 (rB r) (nI v)) 13 (rB r) 0)) fun r168 s168 => (some ((1 : Int32), s168))) _
              rw [pu, bd2_s, if_pos ⟨q1, q2, q3, dr, o2.mp q5⟩]
              refine IT.yes rfl rfl ?_ ?_ (Fs.up (P := Rcl) (Fs.up (P := Rcl) (Fs.up (P := Rcl) (Fs.up (P := Rcl) (Fs.up (P := Rcl) up4 (Or.inr ⟨by decide, by decide⟩)) (Or.inr ⟨by decide, by decide⟩)) (Or.inr ⟨by decide, by decide⟩)) (Or.inr ⟨by decide, by decide⟩)) (Or.inr ⟨by decide, by decide⟩))
              · obtain ⟨c0, c1, c2, c3, c4, c5, c6, c7, c8, c9, c10⟩ := rc.up4 (v := nI h')
                refine ⟨?_, ?_, ?_, ?_, ?_, ?_, ?_, fun y hy => ?_, fun b hb => ?_, fun y hy => ?_, ?_⟩
                · rw [up_n (by decide), up_n (by decide), up_n (by decide), up_n (by decide), up_i (by decide)]; exact c0
                · rw [up_n (by decide), up_n (by decide), up_n (by decide), up_n (by decide), up_i (by decide)]; exact c1
                · rw [up_n (by decide), up_n (by decide), up_n (by decide), up_n (by decide), up_i (by decide)]; exact c2
                · rw [up_n (by decide), up_n (by decide), up_n (by decide), up_n (by decide), up_s]; rfl
                · rw [up_n (by decide), up_n (by decide), up_n (by decide), up_n (by decide), up_i (by decide)]; exact c4
                · rw [up_n (by decide), up_n (by decide), up_n (by decide), up_n (by decide), up_i (by decide)]; exact c5
                · rw [up_n (by decide), up_n (by decide), up_n (by decide), up_n (by decide), up_i (by decide)]; exact c6
                · rw [up_n (by decide), up_n (by decide), up_n (by decide), up_n (by decide), up_n (by decide)]; exact c7 y hy
                · have hb' : b < rB r + 1 := hb
                  show _ = nI (if b = rB r then v else rV r b) ∧ _ = nI (if b = rB r then x else rX r b) ∧ _ = nI (if b = rB r then k else rK r b) ∧ _ = nI 0
                  by_cases eb : b = rB r
                  · rw [if_pos eb, if_pos eb, if_pos eb, eb]
                    refine ⟨?_, ?_, ?_, ?_⟩
                    · rw [up_n (by decide), up_n (by decide), up_n (by decide), up_s]
                    · rw [up_n (by decide), up_s]
                    · rw [up_s]
                    · rw [up_n (by decide), up_n (by decide), up_s]; rfl
                  · obtain ⟨d1, d2, d3, d4⟩ := c8 b (by omega)
                    rw [if_neg eb, if_neg eb, if_neg eb]
                    refine ⟨?_, ?_, ?_, ?_⟩
                    · rw [up_n (by decide), up_n (by decide), up_n (by decide), up_i eb, up_n (by decide)]; exact d1
                    · rw [up_n (by decide), up_i eb, up_n (by decide), up_n (by decide), up_n (by decide)]; exact d2
                    · rw [up_i eb, up_n (by decide), up_n (by decide), up_n (by decide), up_n (by decide)]; exact d3
                    · rw [up_n (by decide), up_n (by decide), up_i eb, up_n (by decide), up_n (by decide)]; exact d4
                · rw [up_n (by decide), up_n (by decide), up_n (by decide), up_n (by decide), up_n (by decide)]; exact c9 y hy
                · rw [up_n (by decide), up_n (by decide), up_n (by decide), up_n (by decide), up_n (by decide)]; exact c10
              · rw [up_n (by decide), up_n (by decide), up_n (by decide), up_n (by decide), up_n (by decide), up_s]
            · rw [if_neg q5]
              exact IT.no (by rw [if_neg (fun z => q5 (o2.mpr z.2.2.2.2))]) rfl up4
        · rw [if_pos (show (8 : Int32) ≤ nI (rB r) from by rw [li_8, nI_leI (by omega) (by omega)]; omega)]
          exact IT.no (by rw [if_neg (fun z => q3 z.2.2.1)]) rfl up4
      · have iv : J_X7_isVillage (nI v) (up σ 4 4 (nI h')) = some 0 := by
          unfold J_X7_isVillage
          rw [if_neg (nne li_0 (by omega) (by omega) (by omega)), if_neg (nne li_1 (by omega) (by omega) (by omega))]
        rw [iv, bd1_s, if_pos z00]
        exact IT.no (by rw [if_neg (fun z => q2 z.2.1)]) rfl up4
    · rw [if_pos (show (3 : Int32) < nI k from by rw [li_3, nI_ltI (by omega) (by omega)]; omega)]
      exact IT.no (by rw [if_neg (fun z => q1 z.1)]) rfl up4
  · rw [k1]
    rcases k3 with k3 | k3
    · rw [k3, if_pos z00, k4]
      exact IT.no rfl rfl up4
    · have nn : (numT L t h).1 = none := by
        rcases k2 with z | z
        · rw [k3] at z; exact absurd z n10
        · exact z
      rw [k3, if_neg n10, nn, k4, if_neg (nI_nlt0 (by omega))]
      by_cases q2 : (3 : Int32) < nI k
      · rw [if_pos q2]; exact IT.no rfl rfl up4
      · rw [if_neg q2]
        cases iv : J_X7_isVillage (nI v) (up σ 4 4 (nI h')) with
        | none =>
          exfalso
          unfold J_X7_isVillage at iv
          split at iv
          · simp at iv
          · split at iv <;> simp at iv
        | some b =>
          rw [bd1_s]
          by_cases q3 : b = 0
          · rw [if_pos q3]; exact IT.no rfl rfl up4
          · rw [if_neg q3]
            have c63 : (up σ 4 4 (nI h')) 6 3 = nI (rB r) := (rc.up4 (v := nI h')).2.2.2.1
            rw [c63, if_neg (nI_nlt0 (by omega))]
            by_cases q4 : (8 : Int32) ≤ nI (rB r)
            · rw [if_pos q4]; exact IT.no rfl rfl up4
            · rw [if_neg q4, show J_X2_grassOn 9 (onI4 none) (up σ 4 4 (nI h')) = some 9 from jc_grassOff (by decide), bd1_s, if_pos rfl]
              exact IT.no rfl rfl up4
theorem jc_bea (c : TC σ L t) (rc : RC σ r) (ok : ROK r) (e : σ 4 4 = nI h) (hh : h < 800) : IT σ (J_X5_readBeast σ) (beaT L t r h) := by
  obtain ⟨σ1, r8, σ2, n1, n2, n3⟩ := jc_tok (v := 44) c e (by omega) (by decide)
  unfold J_X5_readBeast
  rw [n1, bd2_s, show J_X5_passes 44 σ1 = _ from n2, bd2_s]
  rcases n3 with ⟨k, h1, k1, k2, k3, k4, k5, k6⟩ | ⟨k1, k2, k3, h1, k6, k4⟩
  · have c2 : TC σ2 L t := by rw [k4]; exact c.fr up4
    have e2 : σ2 4 4 = nI h1 := by rw [k4]; exact up_s
    have rc2 : RC σ2 r := by rw [k4]; exact rc.up4
    have F2 : Fs Rcl σ σ2 := by rw [k4]; exact up4
    obtain ⟨σ3, r24, σ4, m1, m2, m3⟩ := jc_tok (v := 44) c2 e2 (by omega) (by decide)
    rw [m1, bd2_s, k3, if_neg n10, show J_X5_passes 44 σ3 = _ from m2, bd2_s, k2]
    rcases m3 with ⟨v, h2, j1, j2, j3, j4, j5, j6⟩ | ⟨j1, j2, j3, h2, j6, j4⟩
    · have c4 : TC σ4 L t := by rw [j4]; exact c2.fr up4
      have e4 : σ4 4 4 = nI h2 := by rw [j4]; exact up_s
      have rc4 : RC σ4 r := by rw [j4]; exact rc2.up4
      have F4 : Fs Rcl σ σ4 := by rw [j4]; exact F2.tr up4
      rw [j3, if_neg n10, j2]
      have sp : beaT L t r h = (match tokT L t 59 h2 with
        | none => none
        | some (x, h3) => if k ≤ 3 ∧ v ≤ 1 ∧ rB r < 8 ∧ dryT r x = true ∧ memK (rX r) x (rB r) = false then some (((rQ r, rW r, rR r, rB r + 1, rBe r, rSn r, rWl r), rG r, (fun a => if a = rB r then k else rK r a), (fun a => if a = rB r then v else rV r a), (fun a => if a = rB r then x else rX r a), rS r), h3) else none) := by
        unfold beaT
        rw [k1]
        simp only [j1]
        rfl
      rw [sp]
      exact IT.fr F4 (jc_b35 c4 rc4 ok e4 (by omega) k5 j5)
    · have c4 : TC σ4 L t := by rw [j4]; exact c2.fr up4
      have e4 : σ4 4 4 = nI h2 := by rw [j4]; exact up_s
      have F4 : Fs Rcl σ σ4 := by rw [j4]; exact F2.tr up4
      have sp : beaT L t r h = none := by
        unfold beaT
        rw [k1]
        simp only [j1]
      rcases j3 with z | z
      · rw [z, if_pos z00]
        obtain ⟨σ5, y1, y2⟩ := jc_b35n c4 e4 (by omega) (onI4 (some k)) (onI4 (numT L t h1).1) 0 (Or.inl rfl)
        exact IT.no sp y1 (F4.tr y2)
      · have nn : (numT L t h1).1 = none := by
          rcases j2 with y | y
          · rw [z] at y; exact absurd y n10
          · exact y
        rw [z, if_neg n10, nn]
        obtain ⟨σ5, y1, y2⟩ := jc_b35n c4 e4 (by omega) (onI4 (some k)) (onI4 none) 1 (Or.inr (Or.inr rfl))
        exact IT.no sp y1 (F4.tr y2)
  · have c2 : TC σ2 L t := by rw [k4]; exact c.fr up4
    have e2 : σ2 4 4 = nI h1 := by rw [k4]; exact up_s
    have F2 : Fs Rcl σ σ2 := by rw [k4]; exact up4
    have sp : beaT L t r h = none := by
      unfold beaT
      rw [k1]
    obtain ⟨σ3, r24, σ4, m1, m2, m3⟩ := jc_tok (v := 44) c2 e2 (by omega) (by decide)
    have m1' := jc_num c2 e2 (by omega)
    rw [m1'] at m1
    have e3 := (Prod.mk.inj (Option.some.inj m1)).2
    have nl := @numT_le L t h1
    rw [m1', bd2_s]
    rcases k3 with z | z
    · rw [z, if_pos z00]
      obtain ⟨σ5, y1, y2⟩ := jc_b35n (c2.fr up4) (show (up σ2 4 4 (nI (numT L t h1).2)) 4 4 = nI (numT L t h1).2 from up_s) (by omega) (onI4 (numT L t h).1) (onI4 (numT L t h1).1) 0 (Or.inl rfl)
      exact IT.no sp y1 (F2.tr (up4.tr y2))
    · have nn : (numT L t h).1 = none := by
        rcases k2 with y | y
        · rw [z] at y; exact absurd y n10
        · exact y
      have F4 : Fs Rcl σ2 σ4 ∧ (∃ h', h' ≤ h1 + 3 ∧ σ4 4 4 = nI h') ∧ (r24 = 0 ∨ r24 = 1) := by
        rcases m3 with ⟨v, h2, j1, j2, j3, j4, j5, j6⟩ | ⟨j1, j2, j3, h2, j6, j4⟩
        · exact ⟨by rw [j4]; exact up4, ⟨h2, j6, by rw [j4]; exact up_s⟩, Or.inr j3⟩
        · exact ⟨by rw [j4]; exact up4, ⟨h2, j6, by rw [j4]; exact up_s⟩, j3⟩
      obtain ⟨F4, ⟨h2, h2l, e4⟩, r24c⟩ := F4
      rw [e3, z, if_neg n10, show J_X5_passes 44 σ3 = _ from m2, bd2_s, nn]
      have key : ∀ w : Int32, ∃ σ', J_X5_readBeast_b35 (onI4 none) (onI4 (numT L t h1).1) w σ4 = some (0, σ') ∧ Fs Rcl σ4 σ' := fun w => jc_b35n (c2.fr F4) e4 (by omega) (onI4 none) (onI4 (numT L t h1).1) w (Or.inr (Or.inl (by decide)))
      rcases r24c with y | y
      · rw [y, if_pos z00]
        obtain ⟨σ5, y1, y2⟩ := key 0
        exact IT.no sp y1 (F2.tr (F4.tr y2))
      · rw [y, if_neg n10]
        obtain ⟨σ5, y1, y2⟩ := key 1
        exact IT.no sp y1 (F2.tr (F4.tr y2))
end TEXT3
