/-! drives: one comes to where it goes; undone it is as it was -/
/-- each is where it was, or off -/
def PL (s s' : ST) : Prop := ∀ a, sP s' a = sP s a ∨ sP s' a = 36
theorem PL.rf {s : ST} : PL s s := fun _ => Or.inl rfl
theorem PL.tr {s s' s'' : ST} (h : PL s s') (h' : PL s' s'') : PL s s'' := fun a => by
  rcases h' a with e | e
  · rw [e]; exact h a
  · exact Or.inr e
theorem PL.off {s s' : ST} (h : PL s s') {a : Nat} (e : sP s a = 36) : sP s' a = 36 := by
  rcases h a with z | z
  · rw [z]; exact e
  · exact z
theorem PL.on {Λ : LT} {s s' : ST} (h : PL s s') : onS Λ s' ≤ onS Λ s := suN_mono _ fun a _ => by
  unfold onF
  by_cases e : sP s a = 36
  · rw [if_pos e, if_pos (h.off e)]
    exact Nat.le_refl _
  · rw [if_neg e]
    split <;> omega
theorem graB_PL {Λ : LT} {s : ST} {b : Nat} : PL s (graB Λ s b) := fun a => by
  unfold graB
  by_cases e1 : sP s b = 36
  · rw [if_pos e1]; exact Or.inl rfl
  · rw [if_neg e1]
    by_cases e2 : sG s (sP s b) = 0
    · rw [if_pos e2]
      show (if a = b then (if sH s b + 1 ≤ lBe Λ then sP s b else 36) else sP s a) = sP s a ∨ (if a = b then (if sH s b + 1 ≤ lBe Λ then sP s b else 36) else sP s a) = 36
      by_cases ea : a = b
      · rw [if_pos ea, ea]
        split
        · exact Or.inl rfl
        · exact Or.inr rfl
      · rw [if_neg ea]; exact Or.inl rfl
    · rw [if_neg e2]; exact Or.inl rfl
theorem graK_PL {Λ : LT} {s : ST} : ∀ n, PL s (graK Λ s n)
  | 0 => PL.rf
  | n + 1 => (graK_PL n).tr graB_PL
theorem passS_PL {Λ : LT} {s : ST} : PL s (passS Λ s) := fun a => by
  unfold passS
  rw [nextS_P]
  exact graK_PL _ a
/-- behind a drive to x: the one that was there is off -/
theorem movS_on {Λ : LT} {s : ST} (hΛ : LOK Λ) {b x : Nat} (hb : b < lNb Λ) (hp : sP s b ≠ 36) (hx : x ≠ 36) (hne : onN Λ s x ≠ b) : onS Λ (movS Λ s b x) + (if onN Λ s x = 8 then 0 else 1) ≤ onS Λ s := by
  have n8 := hΛ.2.2.1.2
  have e1 : (if onN Λ s x = 8 then 0 else 1) = suN (fun i => if i = onN Λ s x then 1 else 0) (lNb Λ) := by
    rw [suN_ind]
    rcases onN_cases (s := s) n8 x with z | z
    · rw [z, if_pos rfl, if_neg (by omega)]
    · rw [if_neg (by omega), if_pos z]
  rw [e1]
  unfold onS
  rw [← suN_add]
  refine suN_mono _ fun a ha => ?_
  have ep : sP (movS Λ s b x) a = if a = b then x else if a = onN Λ s x then 36 else sP s a := rfl
  unfold onF
  rw [ep]
  by_cases ea : a = b
  · rw [if_pos ea, if_neg hx, if_neg (fun z => hne (by rw [← z, ea])), ea, if_neg hp]
    exact Nat.le_refl _
  · rw [if_neg ea]
    by_cases eo : a = onN Λ s x
    · rw [if_pos eo, if_pos rfl, if_pos eo]
      rcases onN_spec Λ s x n8 with ⟨z, -⟩ | ⟨w1, w2⟩
      · omega
      · rw [eo, w2, if_neg hx]
        exact Nat.le_refl _
    · rw [if_neg eo, if_neg eo]
      exact Nat.le_refl _
theorem hAdd_n {h : HT} {s : ST} {d : Nat} (n8 : hn h ≤ 8) : ∃ n, hn (hAdd h s d) = n + 1 ∧ hP (hAdd h s d) n = s ∧ n = (if 8 ≤ hn h then 7 else hn h) := by
  show ∃ n, adN (hn h) = n + 1 ∧ adF (hn h) (hP h) s n = s ∧ n = _
  unfold adN adF
  by_cases e : hn h < 8
  · refine ⟨hn h, ?_, ?_, ?_⟩
    · rw [if_pos e]
    · rw [if_pos e]
      exact if_pos rfl
    · rw [if_neg (by omega)]
  · refine ⟨7, ?_, ?_, ?_⟩
    · rw [if_neg e]
    · rw [if_neg e]
      exact if_pos rfl
    · rw [if_pos (by omega)]
section DRV
variable {D : Nat} {σ : Sg} {Λ : LT} {s : ST} {h : HT}
theorem onI_nem2 {n : Nat} (hn : n ≤ 8) : ¬ onI n = (-2 : Int32) := by
  unfold onI
  split
  · decide
  · exact fun e => nI_nlt0 (show n < 2 ^ 31 by omega) (by rw [e]; decide)
theorem nI_nem2 {n : Nat} (hn : n < 2 ^ 31) : ¬ nI n = (-2 : Int32) := fun e => nI_nlt0 hn (by rw [e]; decide)
/-- not driven: all stays -/
theorem ld_no (g : GC D σ Λ s h) (hD : D < 2 ^ 20) (x4 x5 x8 x9 x10 : Int32) {b w : Nat} (hb : b < lNb Λ) (hw : w < 4) (e : ¬ (lostI Λ s = 0 ∧ drvN Λ s b w ≠ 36)) (hv : ¬ x5 < 0 → ∃ t, x5 = nI t ∧ t < lNb Λ ∧ lVl Λ t ≠ lVl Λ b) : J_L_drives_b180 (nI b) (nI w) x4 x5 (nI (sD s)) (nI (hn h)) x8 x9 x10 0 σ = some (1, σ) := by
  have r : J_L_drives_b219 (nI b) x4 x5 (nI (sD s)) (nI (hn h)) x8 x9 x10 0 (-2) (-2) σ = some (1, σ) := by
    unfold J_L_drives_b219
    rw [if_pos rfl, if_pos rfl, g_c3 g, bd1_s, if_pos rfl, g_c10 g, bd1_s, if_pos rfl]
  unfold J_L_drives_b180
  by_cases c : x5 < 0
  · rw [if_pos c, g_drive0 g hD hb hw e, bd2_s, if_pos rfl]
    exact r
  · obtain ⟨t, rfl, t1, t2⟩ := hv c
    have v1 := (g.lk.2.2.2.2.2.2.2.1 t t1).2
    have v2 := (g.lk.2.2.2.2.2.2.2.1 b hb).2
    rw [if_neg c, g_vl g t1, bd1_s, g_vl g hb, bd1_s, if_neg (fun z => t2 ((nI_inj (by omega) (by omega)).mp z)), g_drive0 g hD hb hw e, bd2_s, if_pos rfl]
    exact r
theorem ld_end {σ' : Sg} {s' : ST} {h' : HT} (g : GC D σ' Λ s' h') {n : Nat} (e1 : hn h' = n + 1) (e2 : hP h' n = s) (hΛ : LOK Λ) {b : Nat} (hb : b < lNb Λ) (n0 : Nat) (e3 : n = if 8 ≤ n0 then 7 else n0) (hn0 : n0 ≤ 8) : ∃ σ'', J_L_drives_b340 (nI b) (nI (sD s)) (nI n0) (plI (sP s b)) (allI Λ s) (nI (onS Λ s)) 1 σ' = some (1, σ'') ∧ GC D σ'' Λ s (hDown h') ∧ Fc σ' σ'' := by
  obtain ⟨σ2, r1, r2, r3⟩ := g_undo g e1
  rw [e2] at r2
  refine ⟨σ2, ?_, r2, r3⟩
  have fin : J_L_drives_b365 (nI b) (nI (sD s)) (plI (sP s b)) (allI Λ s) (nI (onS Λ s)) (nI n) (nI n) σ2 = some (1, σ2) := by
    unfold J_L_drives_b365
    rw [if_pos rfl, g_pl r2 hb, bd1_s, if_pos rfl, g_c3 r2, bd1_s, if_pos rfl, g_c8 r2, bd1_s, if_pos rfl, g_c4 r2, bd1_s, g_c5 r2, bd1_s, nI_add, sta_on hΛ, if_pos rfl]
  unfold J_L_drives_b340
  rw [if_neg (by decide), r1, bd2_s]
  by_cases e : 8 ≤ n0
  · rw [if_pos e] at e3
    rw [if_pos (show (8 : Int32) ≤ nI n0 from by rw [li_8, nI_leI (by omega) (by omega)]; exact e)]
    rw [e3] at fin ⊢
    exact fin
  · rw [if_neg e] at e3
    rw [if_neg (show ¬ (8 : Int32) ≤ nI n0 from by rw [li_8, nI_leI (by omega) (by omega)]; exact e), ← e3]
    exact fin
/-- driven: it is there or has starved, the one taken is off -/
theorem ld_yes (g : GC D σ Λ s h) (hD : D < 2 ^ 20) {b w : Nat} (hb : b < lNb Λ) (hw : w < 4) (e1 : lostI Λ s = 0) (e2 : drvN Λ s b w ≠ 36) (hne : onN Λ s (drvN Λ s b w) ≠ b) (hv : onN Λ s (drvN Λ s b w) ≠ 8 → lVl Λ (onN Λ s (drvN Λ s b w)) ≠ lVl Λ b) : ∃ σ' h', J_L_drives_b180 (nI b) (nI w) (nI (drvN Λ s b w)) (onI (onN Λ s (drvN Λ s b w))) (nI (sD s)) (nI (hn h)) (plI (sP s b)) (allI Λ s) (nI (onS Λ s)) 1 σ = some (1, σ') ∧ GC (D + 1) σ' Λ s h' ∧ hq h' = hq h ∧ hK h' = hK h ∧ Fc σ σ' := by
  have sq := g.lk.sq
  have n8 := g.nb
  have hd := g.d
  obtain ⟨q1, q2, q3, q4, q5, q6, q7, q8, q9⟩ := drvN_ok g.lk g.sk e2
  obtain ⟨σ1, r1, r2, r3⟩ := g_drive g hD hb hw e1 e2
  obtain ⟨n, m1, m2, m3⟩ := hAdd_n (s := s) (d := 10 * b + w) g.pg.1
  obtain ⟨σ2, t1, t2, t3⟩ := ld_end (D := D + 1) r2 m1 m2 g.lk hb (hn h) m3 g.pg.1
  refine ⟨σ2, hDown (hAdd h s (10 * b + w)), ?_, t2, rfl, rfl, r3.tr t3⟩
  have pl : PL (movS Λ s b (drvN Λ s b w)) (passS Λ (movS Λ s b (drvN Λ s b w))) := passS_PL
  have mo := movS_on (Λ := Λ) (s := s) g.lk hb q4 e2 hne
  have po := pl.on (Λ := Λ)
  have pb : sP (movS Λ s b (drvN Λ s b w)) b = drvN Λ s b w := if_pos rfl
  have pt : onN Λ s (drvN Λ s b w) < lNb Λ → sP (movS Λ s b (drvN Λ s b w)) (onN Λ s (drvN Λ s b w)) = 36 := fun _ => by
    show (if _ = b then _ else if _ = _ then 36 else _) = 36
    rw [if_neg hne, if_pos rfl]
  have dd : sD (passS Λ (movS Λ s b (drvN Λ s b w))) = sD s + 1 := passS_D
  have os := sta_on (s := passS Λ (movS Λ s b (drvN Λ s b w))) g.lk
  have ob : onS Λ s ≤ 8 := onS_le g.lk
  generalize passS Λ (movS Λ s b (drvN Λ s b w)) = s1 at r2 t1 t2 pl po dd os
  generalize movS Λ s b (drvN Λ s b w) = s0 at pl mo po pb pt
  generalize drvN Λ s b w = R at *
  have c307 : J_L_drives_b307 (nI b) (onI (onN Λ s R)) (nI (sD s)) (nI (hn h)) (plI (sP s b)) (allI Λ s) (nI (onS Λ s)) σ1 = some (1, σ2) := by
    unfold J_L_drives_b307
    rw [g_c4 r2, bd1_s, g_c5 r2, bd1_s, nI_add, os]
    rcases onN_cases (s := s) n8.2 R with z | z
    · rw [z, if_neg (show ¬ (0 : Int32) ≤ onI 8 from by decide)]
      rw [z, if_pos rfl] at mo
      rw [if_neg (fun y => by have := (nI_ltI (by omega) (by omega)).mp y; omega)]
      exact t1
    · have oi : onI (onN Λ s R) = nI (onN Λ s R) := if_neg (by omega)
      rw [if_neg (by omega)] at mo
      rw [oi, if_pos (nI_ge0 (by omega)), li_1, nI_subI (by omega), if_neg (fun y => by have := (nI_ltI (by omega) (by omega)).mp y; omega)]
      exact t1
  have ct : ∀ y : Option (Int32 × Sg), (if onI (onN Λ s R) < 0 then J_L_drives_b307 (nI b) (onI (onN Λ s R)) (nI (sD s)) (nI (hn h)) (plI (sP s b)) (allI Λ s) (nI (onS Λ s)) σ1 else (bd1 (J_X7_beast (onI (onN Λ s R)) 2 σ1) fun r299 => (if r299 = (-4 : Int32) then J_L_drives_b307 (nI b) (onI (onN Λ s R)) (nI (sD s)) (nI (hn h)) (plI (sP s b)) (allI Λ s) (nI (onS Λ s)) σ1 else y))) = some (1, σ2) := by
    intro y
    rcases onN_cases (s := s) n8.2 R with z | z
    · rw [if_pos (by rw [z]; decide)]
      exact c307
    · have oi : onI (onN Λ s R) = nI (onN Λ s R) := if_neg (by omega)
      rw [if_neg (by rw [oi]; exact nI_nlt0 (by omega))]
      have q : J_X7_beast (onI (onN Λ s R)) 2 σ1 = some (-4) := by
        rw [oi, g_pl r2 z, pl.off (pt z)]
        rfl
      rw [q, bd1_s, if_pos rfl]
      exact c307
  have c219 : J_L_drives_b219 (nI b) (nI R) (onI (onN Λ s R)) (nI (sD s)) (nI (hn h)) (plI (sP s b)) (allI Λ s) (nI (onS Λ s)) 1 (nI R) (nI R) σ1 = some (1, σ2) := by
    unfold J_L_drives_b219
    rw [if_pos rfl, if_neg (by decide), g_pl r2 hb, bd1_s, g_c3 r2, bd1_s, dd, if_pos (show nI (sD s + 1) = nI (sD s) + (1 : Int32) from by rw [li_1, nI_add])]
    rcases pl b with z | z
    · rw [z, pb, plI_of (by omega), if_pos rfl]
      exact ct _
    · rw [z, if_neg (show ¬ plI 36 = nI R from fun y => nI_nem4 (by omega) y.symm), if_pos (show plI 36 = (-4 : Int32) from rfl)]
      exact ct _
  have e10 : ¬ (1 : Int32) = 0 := by decide
  unfold J_L_drives_b180
  by_cases c : onI (onN Λ s R) < 0
  · rw [if_pos c, r1, bd2_s, if_neg e10]
    exact c219
  · have z : onN Λ s R < lNb Λ := by
      rcases onN_cases (s := s) n8.2 R with z | z
      · exact absurd (by rw [z]; decide) c
      · exact z
    have oi : onI (onN Λ s R) = nI (onN Λ s R) := if_neg (by omega)
    have v1 := (g.lk.2.2.2.2.2.2.2.1 _ z).2
    have v2 := (g.lk.2.2.2.2.2.2.2.1 b hb).2
    have q : J_X7_beast (onI (onN Λ s R)) 1 σ = some (nI (lVl Λ (onN Λ s R))) := by rw [oi]; exact g_vl g z
    rw [if_neg c, q, bd1_s, g_vl g hb, bd1_s, if_neg (fun y => hv (by omega) ((nI_inj (by omega) (by omega)).mp y)), r1, bd2_s, if_neg e10]
    exact c219
theorem la_drives (g : GC D σ Λ s h) (hD : D < 2 ^ 20) {b w : Nat} (hb : b < lNb Λ) (hw : w < 4) : ∃ σ' h', J_L_drives (nI b) (nI w) σ = some (1, σ') ∧ GC (D + 1) σ' Λ s h' ∧ hq h' = hq h ∧ hK h' = hK h ∧ Fc σ σ' := by
  have sq := g.lk.sq
  have n8 := g.nb
  have p36 := g.p36 hb
  have hd := g.d
  have v2 := (g.lk.2.2.2.2.2.2.2.1 b hb).2
  have os := sta_on (s := s) g.lk
  have g1 : GC (D + 1) σ Λ s h := g.le (by omega)
  unfold J_L_drives
  rw [g_goes g hD hb hw, bd1_s, g_takes g hD hb hw, bd1_s, g_c3 g, bd1_s, g_c10 g, bd1_s, g_pl g hb, bd1_s, g_c8 g, bd1_s, g_c4 g, bd1_s, g_c5 g, bd1_s, nI_add, os]
  by_cases e : sP s b = 36
  · -- off
    have dn : drvN Λ s b w = 36 := by
      unfold drvN reachT
      rw [if_pos e]
      split <;> rfl
    refine ⟨σ, h, ?_, g1, rfl, rfl, Fc.rf⟩
    rw [if_pos e, if_pos e, if_pos (by decide), e]
    have n4 : ¬ (0 : Int32) ≤ plI 36 := by decide
    unfold J_L_drives_b92
    rw [if_pos rfl, if_neg n4]
    unfold J_L_drives_b116
    rw [if_pos rfl, if_pos rfl, if_neg n4]
    unfold J_L_drives_b141
    rw [if_pos rfl, if_pos (by decide)]
    exact ld_no g hD _ _ _ _ _ hb hw (fun z => z.2 dn) (fun z => absurd (by decide) z)
  · rw [if_neg e, if_neg e]
    have g8 : (0 : Int32) ≤ plI (sP s b) := (plI_ge p36).mpr e
    by_cases e2 : reachT Λ s b w (mtN Λ s b true) = 36
    · -- it can't
      have dn : drvN Λ s b w = 36 := by
        unfold drvN
        split
        · exact e2
        · rfl
      refine ⟨σ, h, ?_, g1, rfl, rfl, Fc.rf⟩
      rw [e2, if_pos rfl, if_pos (by decide)]
      unfold J_L_drives_b92
      rw [if_neg (by decide), if_pos g8]
      unfold J_L_drives_b116
      rw [if_pos rfl, if_neg (by decide), if_pos g8]
      unfold J_L_drives_b141
      rw [if_pos rfl, if_pos (by decide)]
      exact ld_no g hD _ _ _ _ _ hb hw (fun z => z.2 dn) (fun z => absurd (by decide) z)
    · obtain ⟨c1, c2, c3⟩ := reachT_ok g.lk g.sk hb hw e2
      have dv : drvN Λ s b w = 36 ∨ drvN Λ s b w = reachT Λ s b w (mtN Λ s b true) := by
        unfold drvN
        split
        · exact Or.inr rfl
        · exact Or.inl rfl
      have dv2 : lVl Λ b = sD s % 2 → drvN Λ s b w = reachT Λ s b w (mtN Λ s b true) := fun z => by
        unfold drvN
        rw [if_pos ⟨hb, hw, z⟩]
      have dv3 : lVl Λ b ≠ sD s % 2 → drvN Λ s b w = 36 := fun z => by
        unfold drvN
        rw [if_neg (fun y => z y.2.2)]
      have vt : onN Λ s (reachT Λ s b w (mtN Λ s b true)) ≠ 8 → lVl Λ (onN Λ s (reachT Λ s b w (mtN Λ s b true))) ≠ lVl Λ b := by
        intro z
        unfold openN at c3
        simp only [Bool.and_eq_true, Bool.or_eq_true, decide_eq_true_eq] at c3
        rcases c3.2.1 with y | y
        · exact absurd y z
        · exact y.1
      generalize reachT Λ s b w (mtN Λ s b true) = R at *
      have o8 : onN Λ s R ≤ 8 := by rcases onN_cases (s := s) n8.2 R with z | z <;> omega
      have hne : onN Λ s R ≠ b := fun z => vt (by omega) (by rw [z])
      have rp : R ≠ sP s b := fun z => hne (by rw [z]; exact onN_of g.lk g.sk hb e)
      rw [plI_of e2, if_neg e2, if_neg (nI_nlt0 (by omega))]
      -- up to the drive
      have mid : ∀ t : Int32, J_L_drives_b92 (nI b) (nI w) (nI R) (onI (onN Λ s R)) (nI (sD s)) (nI (hn h)) (plI (sP s b)) (allI Λ s) (nI (onS Λ s)) t σ = J_L_drives_b180 (nI b) (nI w) (nI R) (onI (onN Λ s R)) (nI (sD s)) (nI (hn h)) (plI (sP s b)) (allI Λ s) (nI (onS Λ s)) t σ := by
        intro t
        unfold J_L_drives_b92
        rw [if_neg (nI_nem2 (by omega)), if_pos g8]
        unfold J_L_drives_b116
        rw [if_pos rfl, if_neg (onI_nem2 o8), if_pos g8]
        unfold J_L_drives_b141
        rw [if_pos rfl, if_neg (nI_nlt0 (by omega)), plI_of e, if_neg (fun z => rp ((nI_inj (by omega) (by omega)).mp z)), g_sq0 g c1, bd1_s, if_neg c2, if_neg (nne li_9 (by have := (g.sk.1 R c1).1; omega) (by omega) (by have := (g.sk.1 R c1).1; omega)), g_sq1 g c1, bd1_s, if_pos rfl]
      have hv : ¬ onI (onN Λ s R) < 0 → ∃ t, onI (onN Λ s R) = nI t ∧ t < lNb Λ ∧ lVl Λ t ≠ lVl Λ b := by
        intro z
        have z8 : onN Λ s R ≠ 8 := fun y => z (by rw [y]; decide)
        exact ⟨onN Λ s R, if_neg z8, by rcases onN_cases (s := s) n8.2 R with y | y; exact absurd y z8; exact y, vt z8⟩
      rw [g_vl g hb, bd1_s, li_2, rmI_nI (by omega) (by omega)]
      by_cases ev : lVl Λ b = sD s % 2
      · have dR := dv2 ev
        rw [if_pos (by rw [ev]), g_c7 g, bd1_s]
        by_cases el : lostI Λ s = 0
        · rw [if_pos el, mid]
          have r := ld_yes g hD hb hw el (by rw [dR]; exact e2) (by rw [dR]; exact hne) (by rw [dR]; exact vt)
          rw [dR] at r
          exact r
        · rw [if_neg el, mid]
          exact ⟨σ, h, ld_no g hD _ _ _ _ _ hb hw (fun z => el z.1) hv, g1, rfl, rfl, Fc.rf⟩
      · rw [if_neg (fun z => ev ((nI_inj (by omega) (by omega)).mp z)), mid]
        exact ⟨σ, h, ld_no g hD _ _ _ _ _ hb hw (fun z => z.2 (dv3 ev)) hv, g1, rfl, rfl, Fc.rf⟩
end DRV
