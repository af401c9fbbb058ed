/-! the class between two calls of the law: h holds the days that can be undone, and what is kept -/
abbrev HT : Type := (Nat × Nat × (Nat → ST) × (Nat → Nat)) × (Nat × (Nat → ST))
def hn (h : HT) : Nat := h.1.1
def ho (h : HT) : Nat := h.1.2.1
def hP (h : HT) : Nat → ST := h.1.2.2.1
def hT (h : HT) : Nat → Nat := h.1.2.2.2
def hq (h : HT) : Nat := h.2.1
def hK (h : HT) : Nat → ST := h.2.2
def GC (D : Nat) (σ : Sg) (Λ : LT) (s : ST) (h : HT) : Prop := LC σ 1 Λ ∧ LOK Λ ∧ MC σ 14 Λ s ∧ SOK Λ s ∧ sD s ≤ D ∧ PcP σ Λ (hn h) (ho h) (hP h) (hT h) ∧ PgP D Λ (hn h) (ho h) (hP h) (hT h) ∧ PcK σ Λ (hq h) (hK h) ∧ PgK D Λ (hq h) (hK h)
/-- the law's own cells stay -/
def Fc (σ σ' : Sg) : Prop := ∀ a, 140 < a → σ' a = σ a
theorem Fc.rf {σ : Sg} : Fc σ σ := fun _ _ => rfl
theorem Fc.tr {σ σ' σ'' : Sg} (h : Fc σ σ') (h' : Fc σ' σ'') : Fc σ σ'' := fun a ha => (h' a ha).trans (h a ha)
theorem Fc.of {σ σ' : Sg} {R : Nat → Nat → Prop} (f : Fs R σ σ') (hR : ∀ a j, R a j → a ≤ 140) : Fc σ σ' := fun a ha => funext fun j => f a j fun z => by have := hR a j z; omega
/-- cells that no picture of the class's state needs -/
def Rs (a : Nat) (_ : Nat) : Prop := (19 ≤ a ∧ a ≤ 23) ∨ 80 ≤ a ∨ (4 ≤ a ∧ a ≤ 13)
section GCS
variable {D : Nat} {σ σ' : Sg} {Λ : LT} {s : ST} {h : HT}
theorem GC.cc (g : GC D σ Λ s h) : CC σ 14 Λ s := ⟨g.1, g.2.2.1, g.2.1, g.2.2.2.1⟩
theorem GC.lk (g : GC D σ Λ s h) : LOK Λ := g.2.1
theorem GC.sk (g : GC D σ Λ s h) : SOK Λ s := g.2.2.2.1
theorem GC.d (g : GC D σ Λ s h) : sD s ≤ D := g.2.2.2.2.1
theorem GC.pc (g : GC D σ Λ s h) : PcP σ Λ (hn h) (ho h) (hP h) (hT h) := g.2.2.2.2.2.1
theorem GC.pg (g : GC D σ Λ s h) : PgP D Λ (hn h) (ho h) (hP h) (hT h) := g.2.2.2.2.2.2.1
theorem GC.kc (g : GC D σ Λ s h) : PcK σ Λ (hq h) (hK h) := g.2.2.2.2.2.2.2.1
theorem GC.kg (g : GC D σ Λ s h) : PgK D Λ (hq h) (hK h) := g.2.2.2.2.2.2.2.2
theorem GC.fr {R : Nat → Nat → Prop} (g : GC D σ Λ s h) (f : Fs R σ σ') (hR : ∀ a j, R a j → (19 ≤ a ∧ a ≤ 23) ∨ 80 ≤ a ∨ (4 ≤ a ∧ a ≤ 13)) : GC D σ' Λ s h :=
  ⟨g.1.frs f fun a j z1 z2 w => by have := hR a j w; omega, g.2.1, g.2.2.1.frs f fun a j z1 z2 w => by have := hR a j w; omega, g.sk, g.d, g.pc.fr f fun a j z1 z2 w => by have := hR a j w; omega, g.pg, g.kc.fr g.kg.1 f fun a j z w => by have := hR a j w; omega, g.kg⟩
theorem PgK.le {q D' : Nat} {K : Nat → ST} (hD : D ≤ D') (k : PgK D Λ q K) : PgK D' Λ q K := ⟨k.1, fun i hi => ⟨(k.2 i hi).1, Nat.le_trans (k.2 i hi).2 hD⟩⟩
theorem GC.le {D' : Nat} (hD : D ≤ D') (g : GC D σ Λ s h) : GC D' σ Λ s h := ⟨g.1, g.2.1, g.2.2.1, g.sk, Nat.le_trans g.d hD, g.pc, g.pg.le hD, g.kc, g.kg.le hD⟩
theorem GC.nb (g : GC D σ Λ s h) : 1 ≤ lNb Λ ∧ lNb Λ ≤ 8 := g.lk.2.2.1
theorem GC.p36 (g : GC D σ Λ s h) {b : Nat} (hb : b < lNb Λ) : sP s b ≤ 36 := SOK.p36 g.lk g.sk hb
theorem GC.hb (g : GC D σ Λ s h) {b : Nat} (hb : b < lNb Λ) : J_X1_hasBeast 1 (nI b) σ = some 1 := jl_hasBeast g.1.2.2.1 g.nb.2 hb
theorem GC.hs (g : GC D σ Λ s h) {x : Nat} (hx : x < lSq Λ) : J_X1_hasSquare 1 (nI x) σ = some 1 := jl_hasSquare g.1.1 g.lk.sq.2.1 hx
/-! what is asked, the class as it stands -/
theorem g_sq0 (g : GC D σ Λ s h) {x : Nat} (hx : x < lSq Λ) : J_X7_square (nI x) 0 σ = some (nI (if lM Λ x = 9 then 9 else sG s x)) := by
  unfold J_X7_square
  rw [g.hs hx, bd1_s, if_neg n10, if_neg (by decide), if_pos (by decide), if_pos rfl, jc_grassOn g.cc hx, bd1_s]
theorem g_sq1 (g : GC D σ Λ s h) {x : Nat} (hx : x < lSq Λ) : J_X7_square (nI x) 1 σ = some (onI (onN Λ s x)) := by
  have q1 := g.lk.sq
  unfold J_X7_square
  rw [g.hs hx, bd1_s, if_neg n10, if_neg (by decide), if_pos (by decide), if_neg (by decide), jc_occ g.cc (by omega), bd1_s]
theorem g_kd (g : GC D σ Λ s h) {b : Nat} (hb : b < lNb Λ) : J_X7_beast (nI b) 0 σ = some (nI (kdN Λ s b)) := by
  unfold J_X7_beast
  rw [g.hb hb, bd1_s, if_neg n10, if_pos rfl, jc_kindOf g.cc hb, bd1_s]
theorem g_vl (g : GC D σ Λ s h) {b : Nat} (hb : b < lNb Λ) : J_X7_beast (nI b) 1 σ = some (nI (lVl Λ b)) := by
  unfold J_X7_beast
  rw [g.hb hb, bd1_s, if_neg n10, if_neg (by decide), if_pos rfl, show J_X1_villageOf 1 (nI b) σ = some (nI (lVl Λ b)) from jc_villageOf g.cc hb, bd1_s]
theorem g_pl (g : GC D σ Λ s h) {b : Nat} (hb : b < lNb Λ) : J_X7_beast (nI b) 2 σ = some (plI (sP s b)) := by
  unfold J_X7_beast
  rw [g.hb hb, bd1_s, if_neg n10, if_neg (by decide), if_neg (by decide), if_pos rfl, jc_placeOf g.cc hb, bd1_s]
theorem g_hu (g : GC D σ Λ s h) {b : Nat} (hb : b < lNb Λ) : J_X7_beast (nI b) 3 σ = some (nI (sH s b)) := by
  unfold J_X7_beast
  rw [g.hb hb, bd1_s, if_neg n10, if_neg (by decide), if_neg (by decide), if_neg (by decide), if_pos rfl, jc_hungerOf g.cc hb, bd1_s]
theorem g_goes (g : GC D σ Λ s h) (hD : D < 2 ^ 20) {b w : Nat} (hb : b < lNb Λ) (hw : w < 4) : J_X7_goes (nI b) (nI w) σ = some (if sP s b = 36 then -2 else plI (reachT Λ s b w (mtN Λ s b true))) := by
  have hd := g.d
  unfold J_X7_goes
  rw [g.hb hb, bd1_s, if_neg n10, j7_isWay hw, bd1_s, if_neg n10, jc_isOff g.cc hb, bd1_s]
  by_cases e : sP s b = 36
  · rw [if_pos e, if_pos e, if_neg n10]
  · rw [if_neg e, if_neg e, if_pos z00, jc_snowing g.cc (by omega), bd1_s, jc_reach g.cc hb hw, bd1_s, bI_comm]
    rfl
theorem g_takes (g : GC D σ Λ s h) (hD : D < 2 ^ 20) {b w : Nat} (hb : b < lNb Λ) (hw : w < 4) : J_X7_takes (nI b) (nI w) σ = some (if sP s b = 36 then -2 else if reachT Λ s b w (mtN Λ s b true) = 36 then -4 else onI (onN Λ s (reachT Λ s b w (mtN Λ s b true)))) := by
  have hd := g.d
  unfold J_X7_takes
  rw [g.hb hb, bd1_s, if_neg n10, j7_isWay hw, bd1_s, if_neg n10, jc_isOff g.cc hb, bd1_s]
  by_cases e : sP s b = 36
  · rw [if_pos e, if_pos e, if_neg n10]
  · rw [if_neg e, if_neg e, if_pos z00, jc_snowing g.cc (by omega), bd1_s, jc_reach g.cc hb hw, bd1_s, bI_comm]
    rw [show (true && (decide (kdN Λ s b ≠ 2) && !snowN Λ s)) = mtN Λ s b true from rfl]
    have le := reachT_le g.lk g.sk (b := b) (way := w) (mt := mtN Λ s b true) hb hw
    have q1 := g.lk.sq
    by_cases e2 : reachT Λ s b w (mtN Λ s b true) = 36
    · rw [if_pos e2, e2, jc_occNeg nm4, bd1_s]
    · rw [if_neg e2, plI_of e2, jc_occ g.cc (by omega), bd1_s]
theorem g_c0 (g : GC D σ Λ s h) : J_X7_count 0 σ = some (nI (lSq Λ)) := by
  unfold J_X7_count
  rw [if_pos rfl, g.1.1]
theorem g_c3 (g : GC D σ Λ s h) : J_X7_count 3 σ = some (nI (sD s)) := by
  unfold J_X7_count
  rw [if_neg (by decide), if_neg (by decide), if_neg (by decide), if_pos rfl, g.2.2.1.1]
theorem g_c4 (g : GC D σ Λ s h) : J_X7_count 4 σ = some (nI (staN Λ s 0)) := by
  unfold J_X7_count
  rw [if_neg (by decide), if_neg (by decide), if_neg (by decide), if_neg (by decide), if_pos rfl, show J_X2_staying 14 0 σ = some (nI (staN Λ s 0)) from jc_staying g.cc (by decide), bd1_s]
theorem g_c5 (g : GC D σ Λ s h) : J_X7_count 5 σ = some (nI (staN Λ s 1)) := by
  unfold J_X7_count
  rw [if_neg (by decide), if_neg (by decide), if_neg (by decide), if_neg (by decide), if_neg (by decide), if_pos rfl, show J_X2_staying 14 1 σ = some (nI (staN Λ s 1)) from jc_staying g.cc (by decide), bd1_s]
theorem g_c6 (g : GC D σ Λ s h) : J_X7_count 6 σ = some (worI Λ s + 100) := by
  unfold J_X7_count
  rw [if_neg (by decide), if_neg (by decide), if_neg (by decide), if_neg (by decide), if_neg (by decide), if_neg (by decide), if_pos rfl, jc_worth g.cc, bd1_s]
theorem g_c7 (g : GC D σ Λ s h) : J_X7_count 7 σ = some (lostI Λ s) := by
  unfold J_X7_count
  rw [if_neg (by decide), if_neg (by decide), if_neg (by decide), if_neg (by decide), if_neg (by decide), if_neg (by decide), if_neg (by decide), if_pos rfl, jc_lost g.cc, bd1_s]
theorem g_c8 (g : GC D σ Λ s h) : J_X7_count 8 σ = some (allI Λ s) := by
  unfold J_X7_count
  rw [if_neg (by decide), if_neg (by decide), if_neg (by decide), if_neg (by decide), if_neg (by decide), if_neg (by decide), if_neg (by decide), if_neg (by decide), if_pos rfl, jc_allGrass g.cc, bd1_s]
theorem g_c9 (g : GC D σ Λ s h) : J_X7_count 9 σ = some (nI (lBe Λ)) := by
  unfold J_X7_count
  rw [if_neg (by decide), if_neg (by decide), if_neg (by decide), if_neg (by decide), if_neg (by decide), if_neg (by decide), if_neg (by decide), if_neg (by decide), if_neg (by decide), if_pos rfl, g.1.2.2.2.2.1]
theorem g_c10 (g : GC D σ Λ s h) : J_X7_count 10 σ = some (nI (hn h)) := by
  unfold J_X7_count
  rw [if_neg (by decide), if_neg (by decide), if_neg (by decide), if_neg (by decide), if_neg (by decide), if_neg (by decide), if_neg (by decide), if_neg (by decide), if_neg (by decide), if_neg (by decide), if_pos rfl, g.pc.1]
theorem g_c11 (g : GC D σ Λ s h) : J_X7_count 11 σ = some (nI (hq h)) := by
  unfold J_X7_count
  rw [if_neg (by decide), if_neg (by decide), if_neg (by decide), if_neg (by decide), if_neg (by decide), if_neg (by decide), if_neg (by decide), if_neg (by decide), if_neg (by decide), if_neg (by decide), if_neg (by decide), if_pos rfl, g.kc.1]
/-! a day -/
def hAdd (h : HT) (s : ST) (d : Nat) : HT := ((adN (hn h), adO (hn h) (ho h), adF (hn h) (hP h) s, adF (hn h) (hT h) d), (hq h, hK h))
theorem GC.day {s' : ST} {σ1 σ2 : Sg} {d : Nat} (g : GC D σ Λ s h) (r1 : PcP σ1 Λ (adN (hn h)) (adO (hn h) (ho h)) (adF (hn h) (hP h) s) (adF (hn h) (hT h) d)) (f1 : Fs (fun a _ => 24 ≤ a ∧ a ≤ 67) σ σ1) (c2 : CC σ2 14 Λ s') (f2 : Fs (fun a _ => 14 ≤ a ∧ a ≤ 18) σ1 σ2) (hl : lostI Λ s = 0) (hd : d < 100) (hs' : sD s' ≤ D + 1) : GC (D + 1) σ2 Λ s' (hAdd h s d) ∧ Fc σ σ2 := by
  have f : Fs (fun a _ => (14 ≤ a ∧ a ≤ 18) ∨ (24 ≤ a ∧ a ≤ 67)) σ σ2 := (f1.mono fun a j z => Or.inr z).tr (f2.mono fun a j z => Or.inl z)
  exact ⟨⟨c2.1, g.2.1, c2.2.1, c2.2.2.2, hs', r1.fr f2 fun a j z1 z2 w => by omega, (adG g.pg g.sk g.d hl hd).le (by omega), g.kc.fr g.kg.1 f fun a j z w => by omega, g.kg.le (by omega)⟩, Fc.of f fun a j z => by omega⟩
theorem g_rest (g : GC D σ Λ s h) (hD : D < 2 ^ 20) (e : lostI Λ s = 0) : ∃ σ', J_X7_rest σ = some (nI (sD s + 1), σ') ∧ GC (D + 1) σ' Λ (passS Λ s) (hAdd h s 99) ∧ Fc σ σ' := by
  have hd := g.d
  obtain ⟨σ1, r1, r2, r3⟩ := jc_add g.pg.1 g.pg.2.1 g.2.2.1 g.pc 99
  have hc1 : CC σ1 14 Λ s := ⟨g.1.frs r3 fun a j z1 z2 w => by have := lnd_lt (c := 14) (by decide); omega, g.2.2.1.frs r3 fun a j z1 z2 w => by omega, g.lk, g.sk⟩
  obtain ⟨σ2, t1, t2, t3⟩ := jc_pass hc1 (by decide) (by omega)
  refine ⟨σ2, ?_, g.day r2 r3 t2 (t3.fs fun a j z => z) e (by decide) (by rw [passS_D]; omega)⟩
  unfold J_X7_rest
  rw [jc_lost g.cc, bd1_s, if_pos e, show J_X3_add 14 99 σ = _ from r1, bd2_s, t1, bd2_s, t2.2.1.1, passS_D]
theorem g_rest0 (g : GC D σ Λ s h) (e : lostI Λ s ≠ 0) : J_X7_rest σ = some (-2, σ) := by
  unfold J_X7_rest
  rw [jc_lost g.cc, bd1_s, if_neg e]
theorem g_drive (g : GC D σ Λ s h) (hD : D < 2 ^ 20) {b w : Nat} (hb : b < lNb Λ) (hw : w < 4) (e1 : lostI Λ s = 0) (e2 : drvN Λ s b w ≠ 36) : ∃ σ', J_X7_drive (nI b) (nI w) σ = some (nI (drvN Λ s b w), σ') ∧ GC (D + 1) σ' Λ (passS Λ (movS Λ s b (drvN Λ s b w))) (hAdd h s (10 * b + w)) ∧ Fc σ σ' := by
  have hd := g.d
  have h36 := g.lk.sq.2.1
  have n8 := g.nb
  have ei : (10 : Int32) * nI b + nI w = nI (10 * b + w) := by rw [li_10, nI_mul, nI_add]
  obtain ⟨q1, q2, q3, q4, q5, q6, q7, q8, q9⟩ := drvN_ok g.lk g.sk e2
  obtain ⟨σ1, r1, r2, r3⟩ := jc_add g.pg.1 g.pg.2.1 g.2.2.1 g.pc (10 * b + w)
  have hc1 : CC σ1 14 Λ s := ⟨g.1.frs r3 fun a j z1 z2 w => by have := lnd_lt (c := 14) (by decide); omega, g.2.2.1.frs r3 fun a j z1 z2 w => by omega, g.lk, g.sk⟩
  obtain ⟨σ2, v1, v2, v3⟩ := jc_move hc1 (by decide) q1 q4 q8 q9
  obtain ⟨σ3, t1, t2, t3⟩ := jc_pass v2 (by decide) (show sD s < 2 ^ 29 by omega)
  refine ⟨σ3, ?_, g.day r2 r3 t2 ((v3.fs fun a j z => by omega).tr (t3.fs fun a j z => z)) e1 (by omega) (by rw [passS_D]; show sD s + 1 ≤ D + 1; omega)⟩
  unfold J_X7_drive
  rw [g.hb hb, bd1_s, if_neg n10, j7_isWay hw, bd1_s, if_neg n10, jc_driven g.cc (by omega) (by omega) (by omega), bd1_s, plI_of e2, if_neg (nI_nem4 (by omega)), jc_lost g.cc, bd1_s, if_pos e1, ei, r1, bd2_s, v1, bd2_s, t1, bd2_s]
theorem g_drive0 (g : GC D σ Λ s h) (hD : D < 2 ^ 20) {b w : Nat} (hb : b < lNb Λ) (hw : w < 4) (e : ¬ (lostI Λ s = 0 ∧ drvN Λ s b w ≠ 36)) : J_X7_drive (nI b) (nI w) σ = some (-2, σ) := by
  have hd := g.d
  have h36 := g.lk.sq.2.1
  have n8 := g.nb
  have dl := drvN_le g.lk g.sk (b := b) (way := w)
  unfold J_X7_drive
  rw [g.hb hb, bd1_s, if_neg n10, j7_isWay hw, bd1_s, if_neg n10, jc_driven g.cc (by omega) (by omega) (by omega), bd1_s]
  by_cases e2 : drvN Λ s b w = 36
  · rw [if_pos ((plI_lt _ dl).mpr e2)]
  · rw [if_neg (fun z => e2 ((plI_lt _ dl).mp z)), jc_lost g.cc, bd1_s, if_neg (fun z => e ⟨z, e2⟩)]
def hDown (h : HT) : HT := ((hn h - 1, ho h, hP h, hT h), (hq h, hK h))
theorem g_undo (g : GC D σ Λ s h) {n : Nat} (e : hn h = n + 1) : ∃ σ', J_X7_undo σ = some (nI n, σ') ∧ GC D σ' Λ (hP h n) (hDown h) ∧ Fc σ σ' := by
  have n8 := g.pg.1
  have g6 := g.pc
  rw [e] at g6 n8
  obtain ⟨σ1, r1, r2, r3, r4⟩ := jc_undo (by omega) g.pg.2.1 g6
  have pn := g.pg.2.2 n (by omega)
  have en : hn (hDown h) = n := by show hn h - 1 = n; omega
  refine ⟨σ1, r1, ⟨g.1.frs r4 fun a j z1 z2 w => by omega, g.lk, r3, pn.1, pn.2.1, by rw [en]; exact r2, ⟨by rw [en]; omega, g.pg.2.1, fun i hi => g.pg.2.2 i (by rw [en] at hi; omega)⟩, g.kc.fr g.kg.1 r4 fun a j z w => by omega, g.kg⟩, Fc.of r4 fun a j z => by omega⟩
def hKeep (h : HT) (s : ST) : HT := ((hn h, ho h, hP h, hT h), (hq h + 1, fun i => if i = hq h then s else hK h i))
theorem g_keep (g : GC D σ Λ s h) (e : hq h < 2) : ∃ σ', J_X7_keep σ = some (nI (hq h + 1), σ') ∧ GC D σ' Λ s (hKeep h s) ∧ Fc σ σ' := by
  obtain ⟨σ1, r1, r2, r3⟩ := jc_keep e g.2.2.1 g.kc
  refine ⟨σ1, r1, ⟨g.1.frs r3 fun a j z1 z2 w => by omega, g.lk, g.2.2.1.frs r3 fun a j z1 z2 w => by omega, g.sk, g.d, g.pc.fr r3 fun a j z1 z2 w => by omega, g.pg, r2, ⟨e, fun i hi => ?_⟩⟩, Fc.of r3 fun a j z => by omega⟩
  show SOK Λ (if i = hq h then s else hK h i) ∧ sD (if i = hq h then s else hK h i) ≤ D
  by_cases ei : i = hq h
  · rw [if_pos ei]; exact ⟨g.sk, g.d⟩
  · rw [if_neg ei]
    have hi' : i < hq h + 1 := hi
    exact g.kg.2 i (by omega)
def hBack (h : HT) : HT := ((0, ho h, hP h, hT h), (hq h - 1, hK h))
theorem g_back (g : GC D σ Λ s h) {q : Nat} (e : hq h = q + 1) : ∃ σ', J_X7_back σ = some (nI q, σ') ∧ GC D σ' Λ (hK h q) (hBack h) ∧ Fc σ σ' := by
  have k := g.kc
  have kg := g.kg
  rw [e] at k kg
  have q2 := kg.1
  obtain ⟨σ1, r1, r2, r3, r4, r5⟩ := jc_back (by omega) k
  have kq := kg.2 q (by omega)
  have eq : hq (hBack h) = q := by show hq h - 1 = q; omega
  refine ⟨σ1, r1, ⟨g.1.frs r5 fun a j z1 z2 w => by omega, g.lk, r3, kq.1, kq.2, ⟨r4, ?_, fun i hi => absurd hi (Nat.not_lt_zero i)⟩, ⟨Nat.zero_le _, g.pg.2.1, fun i hi => absurd hi (Nat.not_lt_zero i)⟩, by rw [eq]; exact r2, by rw [eq]; exact ⟨by omega, fun i hi => kg.2 i (by omega)⟩⟩, Fc.of r5 fun a j z => by omega⟩
  rw [r5 24 4 (by omega)]; exact g.pc.2.1
/-! what can be -/
theorem g_spare (g : GC D σ Λ s h) : ∃ σ1, J_X2_copyFrom 19 14 σ = some ((), σ1) ∧ CC σ1 19 Λ s ∧ Fr (fun a => 19 ≤ a ∧ a ≤ 23) σ σ1 := by
  obtain ⟨σ1, r1, r2, r3⟩ := jc_copy (c := 19) (d := 14) g.2.2.1 (by omega)
  exact ⟨σ1, r1, ⟨LC.fr g.1 (r3 1 (by omega)) (r3 2 (by omega)) (r3 3 (by omega)), r2, g.lk, g.sk⟩, r3⟩
theorem GC.spare (g : GC D σ Λ s h) (f : Fr (fun a => 19 ≤ a ∧ a ≤ 23) σ σ') : GC D σ' Λ s h ∧ Fc σ σ' :=
  ⟨g.fr (f.fs (Q := fun a _ => 19 ≤ a ∧ a ≤ 23) fun a j z => z) fun a j z => by omega, Fc.of (f.fs (Q := fun a _ => 19 ≤ a ∧ a ≤ 23) fun a j z => z) fun a j z => by omega⟩
theorem GC.ahead (g : GC D σ Λ s h) (f : Fr (fun a => 80 ≤ a ∧ a ≤ 140) σ σ') : GC D σ' Λ s h ∧ Fc σ σ' :=
  ⟨g.fr (f.fs (Q := fun a _ => 80 ≤ a ∧ a ≤ 140) fun a j z => z) fun a j z => by omega, Fc.of (f.fs (Q := fun a _ => 80 ≤ a ∧ a ≤ 140) fun a j z => z) fun a j z => by omega⟩
theorem g_again (g : GC D σ Λ s h) (hD : D < 2 ^ 20) {x : Nat} (hx : x < lSq Λ) : ∃ σ', J_X7_again (nI x) σ = some (if lM Λ x = 9 then -2 else agaK Λ x 61 0 s, σ') ∧ GC D σ' Λ s h ∧ Fc σ σ' := by
  have hd := g.d
  have m9' := g.lk.2.2.2.2.2.2.1 x hx
  have g8 := (g.sk.1 x hx).1
  by_cases m9 : lM Λ x = 9
  · refine ⟨σ, ?_, g, Fc.rf⟩
    unfold J_X7_again
    rw [g.hs hx, bd1_s, if_neg n10, jc_grassOn g.cc hx, bd1_s, if_pos m9, if_pos m9, if_pos (show nI 9 = (9 : Int32) from rfl)]
  · obtain ⟨σ1, r1, r2, r3⟩ := g_spare g
    obtain ⟨σ2, t1, t2⟩ := jc_againLoop hx m9 61 0 FU s σ1 (by omega) (by rw [FU_eq]; omega) (by omega) r2
    refine ⟨σ2, ?_, g.spare (r3.tr t2)⟩
    unfold J_X7_again
    rw [g.hs hx, bd1_s, if_neg n10, jc_grassOn g.cc hx, bd1_s, if_neg m9, if_neg m9, if_neg (nne li_9 (by omega) (by omega) (by omega)), r1, bd2_s]
    exact t1
theorem g_starves (g : GC D σ Λ s h) (hD : D < 2 ^ 20) {b : Nat} (hb : b < lNb Λ) : ∃ σ', J_X7_starves (nI b) σ = some (if sP s b = 36 then -2 else strK Λ b 60 1 s, σ') ∧ GC D σ' Λ s h ∧ Fc σ σ' := by
  have hd := g.d
  by_cases e : sP s b = 36
  · refine ⟨σ, ?_, g, Fc.rf⟩
    unfold J_X7_starves
    rw [g.hb hb, bd1_s, if_neg n10, jc_isOff g.cc hb, bd1_s, if_pos e, if_pos e, if_neg n10]
  · obtain ⟨σ1, r1, r2, r3⟩ := g_spare g
    obtain ⟨σ2, t1, t2⟩ := jc_starLoop hb 60 1 FU s σ1 (by omega) (by rw [FU_eq]; omega) (by omega) r2
    refine ⟨σ2, ?_, g.spare (r3.tr t2)⟩
    unfold J_X7_starves
    rw [g.hb hb, bd1_s, if_neg n10, jc_isOff g.cc hb, bd1_s, if_neg e, if_neg e, if_pos z00, r1, bd2_s]
    exact t1
theorem g_season (g : GC D σ Λ s h) (hD : D < 2 ^ 20) {z m : Nat} (hz : z < 10000) (m1 : 1 ≤ m) (hm : m ≤ 60) : ∃ σ', J_X7_season (nI z) (nI m) 1 σ = some (nI (staN Λ (seaK Λ z m 0 s) 0) + nI (staN Λ (seaK Λ z m 0 s) 1), σ') ∧ GC D σ' Λ s h ∧ Fc σ σ' := by
  have hd := g.d
  have e99 : (9999 : Int32) = nI 9999 := rfl
  obtain ⟨σ1, r1, r2, r3⟩ := g_spare g
  obtain ⟨σ2, t1, t2⟩ := jc_seaLoop hz (show m ≤ 60 by omega) 1 m 0 FU s σ1 (by omega) (by rw [FU_eq]; omega) (by omega) r2
  refine ⟨σ2, ?_, g.spare (r3.tr t2)⟩
  unfold J_X7_season
  rw [if_neg (nI_nlt0 (by omega)), if_neg (show ¬ (9999 : Int32) < nI z from by rw [e99, nI_ltI (by omega) (by omega)]; omega), if_neg (show ¬ nI m < (1 : Int32) from by rw [li_1, nI_ltI (by omega) (by omega)]; omega), if_neg (show ¬ (60 : Int32) < nI m from by rw [li_60, nI_ltI (by omega) (by omega)]; omega), if_neg (by decide), if_pos (by decide), r1, bd2_s]
  exact t1
theorem g_oth (g : GC D σ Λ s h) (hD : D < 2 ^ 20) {b x w : Nat} (hb : b < lNb Λ) (hx : x < lSq Λ) (hw : w ≤ 1) : ∃ σ', J_X7_otherwise (nI b) (nI x) (nI w) σ = some (if w = 0 then nI (othB Λ (hn h) (hP h) (hT h) b x (hn h) 0 (0, -4)).1 else (othB Λ (hn h) (hP h) (hT h) b x (hn h) 0 (0, -4)).2, σ') ∧ GC D σ' Λ s h ∧ Fc σ σ' := by
  have ww := what1 hw
  have n8 := g.pg.1
  obtain ⟨σ1, r1, r2⟩ := jc_oth43 (nI w) g.pg hD g.lk hb hx (hn h) 0 FU (0, -4) σ (by omega) (by rw [FU_eq]; omega) (Nat.le_refl _) ⟨fun _ => rfl, fun _ => rfl⟩ g.1 g.pc
  refine ⟨σ1, ?_, g.spare r2⟩
  unfold J_X7_otherwise
  rw [g.hb hb, bd1_s, if_neg n10, g.hs hx, bd1_s, if_neg n10, if_neg ww.1, if_pos ww.2]
  have e : (nI w = 0) ↔ w = 0 := by
    rcases (show w = 0 ∨ w = 1 by omega) with rfl | rfl <;> decide
  by_cases w0 : w = 0
  · rw [if_pos w0]
    rw [if_pos (e.mpr w0)] at r1
    exact r1
  · rw [if_neg w0]
    rw [if_neg (fun z => w0 (e.mp z))] at r1
    exact r1
theorem g_level0 (g : GC D σ Λ s h) : ∃ σ1, J_X2_copyFrom 95 14 σ = some ((), σ1) ∧ CC σ1 95 Λ s ∧ Fr (fun a => 80 ≤ a ∧ a ≤ 140) σ σ1 := by
  obtain ⟨σ1, r1, r2, r3⟩ := jc_like (c := 95) g.cc rfl rfl (by decide) (by decide)
  exact ⟨σ1, r1, r2, r3.mono fun a z => ⟨by omega, by omega⟩⟩
theorem g_wolves (g : GC D σ Λ s h) (hD : D < 2 ^ 20) {x m y w : Nat} (hx : x < lNb Λ) (hm : m ≤ 8) (hy : y ≤ 10) (hw : w ≤ 1) (e : sP s x ≠ 36) : ∃ σ', J_X7_wolves (nI x) (nI m) (nI y) (nI w) σ = some (nI ((if w = 0 then stN Λ x y m s else 10 ^ m) / Nat.gcd (stN Λ x y m s) (10 ^ m)), σ') ∧ GC D σ' Λ s h ∧ Fc σ σ' := by
  have hd := g.d
  have c1 : ¬ (8 : Int32) < nI m := by rw [li_8, nI_ltI (by omega) (by omega)]; omega
  have c2 : ¬ (10 : Int32) < nI y := by rw [li_10, nI_ltI (by omega) (by omega)]; omega
  have e36 : J_X7_wolves (nI x) (nI m) (nI y) (nI w) σ = J_X7_wolves_b36 (nI x) (nI m) (nI y) (nI w) 1 σ := by
    unfold J_X7_wolves
    rw [g.hb hx, bd1_s, if_neg n10, if_neg (nI_nlt0 (by omega)), if_neg c1, if_neg (nI_nlt0 (by omega)), if_neg c2]
  have ww := what1 hw
  have B := pow10_le (show m ≤ 8 by omega)
  have B0 : 0 < 10 ^ m := Nat.pow_pos (by decide)
  have A := stN_le (Λ := Λ) (b := x) (x := y) (by omega) m s
  obtain ⟨σ1, r1, r2, r3⟩ := g_level0 g
  obtain ⟨σ2, t1, t2⟩ := jc_stay (n := m) (b := x) (x := y) hx (by omega) (by omega) m 0 FR s σ1 (by omega) (show m < 12 by omega) (by omega) r2
  refine ⟨σ2, ?_, g.ahead (r3.tr (t2.mono fun a z => by have z' : 95 + 4 < a ∧ a ≤ 140 := z; omega))⟩
  rw [e36]
  unfold J_X7_wolves_b36
  rw [if_neg n10, if_neg ww.1, if_pos ww.2, jc_isOff g.cc hx, bd1_s, if_neg e, if_pos z00]
  generalize hA : stN Λ x y m s = A' at A t1 ⊢
  generalize hB : 10 ^ m = B' at A B B0 ⊢
  have gd := Nat.gcd_pos_of_pos_right A' B0
  have gl := Nat.le_of_dvd B0 (Nat.gcd_dvd_right A' B')
  have cg : J_X7_commonPart (lN A') (lN B') σ2 = some (lN (Nat.gcd A' B')) := j7_gcd (σ := σ2) 27 FU 0 A' B' (by omega) (by decide) (by rw [FU_eq]; decide) (by omega) (by omega)
  generalize Nat.gcd A' B' = G at gd gl cg ⊢
  have gn : ¬ lN G = 0 := fun z => by have z2 : lN G = lN 0 := z; have := (lN_eq (by omega) (by omega)).mp z2; omega
  rw [show J_X7_wolves_b76 FU (nI x) (nI m) (nI y) (nI w) 1 0 σ = _ from jc_wl76 (nI w) (by omega) m 0 FU (by omega) (by rw [FU_eq]; omega)]
  unfold J_X0_staying
  rw [show J_X4_get 94 0 σ = some 95 from rfl, bd1_s, r1, bd2_s, show J_X0_stayingFrom FR 0 (nI x) (nI m) (nI y) σ1 = _ from t1, bd2_s, bd2_s, hB, cg, bd1_s, if_pos ((lg_cmp_ge _ _).mpr (by rw [lN_e1]; exact (lN_le (by omega) (by omega)).mpr gd)), if_neg gn, if_neg gn, lN_div (by omega) (by omega), lN_div (by omega) (by omega), lN_i, lN_i]
  rcases (show w = 0 ∨ w = 1 by omega) with rfl | rfl
  · rw [if_pos (show nI 0 = 0 from rfl), if_pos rfl]
  · rw [if_neg (show ¬ nI 1 = 0 from by decide), if_neg (by decide)]
theorem g_game (g : GC D σ Λ s h) (hD : D < 2 ^ 20) {w : Nat} (hw : w ≤ 1) : ∃ σ', J_X7_game 1 (nI w) σ = some (if lostI Λ s = 0 then (if w = 0 then (gmV Λ 1 s).2 + 100 else (gmV Λ 1 s).1) else -2, σ') ∧ GC D σ' Λ s h ∧ Fc σ σ' := by
  have hd := g.d
  have ww := what1 hw
  by_cases e : lostI Λ s = 0
  · obtain ⟨σ1, r1, r2, r3⟩ := g_level0 g
    obtain ⟨σ2, t1, t2, t3⟩ := jc_gm (n := 1) (by omega) 1 0 FR s σ1 (by omega) (show 1 < 12 by omega) (by omega) r2
    refine ⟨σ2, ?_, g.ahead (r3.tr (t3.mono fun a z => by
      have z' : a = 92 ∨ (95 + 4 < a ∧ a ≤ 140) := z
      omega))⟩
    unfold J_X7_game
    rw [if_neg (by decide), if_neg (by decide), if_neg ww.1, if_pos ww.2, jc_lost g.cc, bd1_s, if_pos e, if_pos e]
    unfold J_X0_worthBehind
    rw [show J_X4_get 94 0 σ = some 95 from rfl, bd1_s, r1, bd2_s, show J_X0_worthFrom FR 0 1 σ1 = _ from t1, bd2_s, bd2_s, t2 (by omega) e]
    rcases (show w = 0 ∨ w = 1 by omega) with rfl | rfl
    · rw [if_pos (show nI 0 = 0 from rfl), if_pos rfl]
    · rw [if_neg (show ¬ nI 1 = 0 from by decide), if_neg (by decide)]
  · refine ⟨σ, ?_, g, Fc.rf⟩
    unfold J_X7_game
    rw [if_neg (by decide), if_neg (by decide), if_neg ww.1, if_pos ww.2, jc_lost g.cc, bd1_s, if_neg e, if_neg e]
/-- what summer tells -/
def smA (Λ : LT) (s : ST) (v : Nat) (b : Int32) : Int32 := match dayF Λ v s 6 0 with
  | none => -4
  | some p => if b = -1 then nI p.1 else ansS v (sD s) b p
theorem g_summer (g : GC D σ Λ s h) (hD : D < 2 ^ 20) {v : Nat} (hv : v ≤ 1) {b : Int32} (hb : (-1 : Int32) ≤ b) : ∃ σ', J_X7_summer (nI v) b σ = some (if lWl Λ = 36 then -2 else smA Λ s v b, σ') ∧ GC D σ' Λ s h ∧ Fc σ σ' := by
  have hd := g.d
  have q1 := g.lk.sq
  have iv : J_X7_isVillage (nI v) σ = some 1 := by
    unfold J_X7_isVillage
    rcases (show v = 0 ∨ v = 1 by omega) with z | z
    · rw [z, if_pos (show nI 0 = 0 from rfl)]
    · rw [z, if_neg (show ¬ nI 1 = 0 from by decide), if_pos (show nI 1 = 1 from rfl)]
  by_cases hw : lWl Λ = 36
  · refine ⟨σ, ?_, g, Fc.rf⟩
    unfold J_X7_summer
    rw [iv, bd1_s, if_neg n10, if_pos hb, g.1.2.2.2.1, hw, if_pos (show plI 36 = -4 from rfl), if_pos rfl]
  · have w36 : lWl Λ < 36 := by rcases g.lk.2.2.2.2.2.1 with z | z; exact absurd z hw; omega
    obtain ⟨σ1, r1, r2, r3⟩ := g_level0 g
    obtain ⟨σ2, t1, t2, t3⟩ := jc_sm14 (v := v) (by omega) hw (by omega) 6 0 FU σ1 rfl (by rw [FU_eq]; decide) (Or.inl rfl) r2
    refine ⟨σ2, ?_, g.ahead (r3.tr (t2.mono fun a z => by
      have z' : a = 92 ∨ a = 93 ∨ (95 + 4 < a ∧ a ≤ 140) := z
      omega))⟩
    unfold J_X7_summer J_X0_daysToWell smA
    rw [if_neg hw, iv, bd1_s, if_neg n10, if_pos hb, g.1.2.2.2.1, if_neg (show ¬ plI (lWl Λ) = -4 from fun z => hw ((plI_lt _ (by omega)).mp z)), show J_X4_get 94 0 σ = some 95 from rfl, bd1_s, r1, bd2_s, show J_X0_daysToWell_b14 FU (nI v) 0 σ1 = _ from t1, bd2_s]
    generalize he : dayF Λ v s 6 0 = e at t3
    cases e with
    | none => rw [if_pos (show (-4 : Int32) = -4 from rfl)]
    | some p =>
      obtain ⟨p1, p2⟩ := t3 p rfl
      show (if nI p.1 = (-4 : Int32) then some (nI p.1, σ2) else if b = -1 then some (nI p.1, σ2) else bd1 (J_X0_onOwnDay b σ2) fun r62 => some (r62, σ2)) = some (if b = -1 then nI p.1 else ansS v (sD s) b p, σ2)
      rw [if_neg (nI_nem4 (by omega))]
      by_cases eb : b = -1
      · rw [if_pos eb, if_pos eb]
      · rw [if_neg eb, if_neg eb, jc_onOwn p1 p2 hb eb, bd1_s]
end GCS
