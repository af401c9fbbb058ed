/-! strays: the fewest drives to each square, how many squares by so many -/
theorem suN_tail {f : Nat → Nat} {n : Nat} : ∀ m, n ≤ m → (∀ i, n ≤ i → i < m → f i = 0) → suN f m = suN f n
  | 0, h, _ => by rw [show n = 0 by omega]
  | m + 1, h, hz => by
    by_cases e : n = m + 1
    · rw [e]
    · show suN f m + f m = suN f n
      rw [suN_tail m (by omega) (fun i h1 h2 => hz i h1 (by omega)), hz m (by omega) (by omega)]
      rfl
/-- the fewest drives to a square, as told; whether it can be come to by n -/
def farI (t : WT) (x : Nat) : Int32 := match fsK t x 73 0 with
  | some i => if 12 < tF t i then -4 else nI (tF t i)
  | none => -4
def farW (t : WT) (x k : Nat) : Int32 := match fsK t x 73 0 with
  | some i => if 12 < tF t i then -4 else (if k < tF t i then nI (tB t (ancK t (k + 1) 71 i)) else -4)
  | none => -4
def strF (t : WT) (m x : Nat) : Nat := match fsK t x 73 0 with
  | some i => if tF t i ≤ m then 1 else 0
  | none => 0
theorem cntK_su {t : WT} : ∀ (k x c : Nat), x + k = 36 → cntK t k x c + suN (fun x => if (fsK t x 73 0).isSome = true then 1 else 0) x = c + suN (fun x => if (fsK t x 73 0).isSome = true then 1 else 0) 36
  | 0, x, c, h => by
    rw [show x = 36 by omega]
    rfl
  | k + 1, x, c, h => by
    have r := cntK_su (t := t) k (x + 1) (if (fsK t x 73 0).isSome = true then c + 1 else c) (by omega)
    have e : suN (fun x => if (fsK t x 73 0).isSome = true then 1 else 0) (x + 1) = suN (fun x => if (fsK t x 73 0).isSome = true then 1 else 0) x + (if (fsK t x 73 0).isSome = true then 1 else 0) := rfl
    rw [e] at r
    rw [cntK]
    by_cases c1 : (fsK t x 73 0).isSome = true
    · rw [if_pos c1] at r ⊢
      rw [if_pos c1] at r
      omega
    · rw [if_neg c1] at r ⊢
      rw [if_neg c1] at r
      omega
section STR
variable {D : Nat} {σ : Sg} {Λ : LT} {s : ST} {h : HT}
theorem nI_lt72 {k : Nat} (hk : k < 72) : (-1 : Int32) ≤ nI k ∧ ¬ nI k = -1 := ⟨Int32.le_trans (by decide) (nI_ge0 (show k < 2 ^ 31 by omega)), fun e => nI_nlt0 (show k < 2 ^ 31 by omega) (by rw [e]; decide)⟩
theorem g_few (g : GC D σ Λ s h) (hD : D < 2 ^ 20) {b y : Nat} (hb : b < lNb Λ) (hy : y < lSq Λ) (e : sP s b ≠ 36) : ∃ σ', J_X7_fewest (nI b) (nI y) (-1) σ = some (farI (allT Λ s b 1000) y, σ') ∧ (∀ k, k < 72 → J_X7_fewest (nI b) (nI y) (nI k) σ = some (farW (allT Λ s b 1000) y k, σ')) ∧ GC D σ' Λ s h ∧ Fc σ σ' := by
  have hd := g.d
  have q1 := g.lk.sq
  obtain ⟨σ1, r1, r2, r3⟩ := jc_from g.cc hb e (by omega)
  obtain ⟨k1, k2⟩ := allT_ok g.lk g.sk hb e 1000
  have fi : J_X6_first (nI y) σ1 = some (match fsK (allT Λ s b 1000) y 73 0 with
      | some i => if 12 < tF (allT Λ s b 1000) i then -4 else nI i
      | none => -4) := jc_first r2 k2 (fun i hi => by have := k1.F_le i hi; omega) (by omega) 73 0 FU rfl (by rw [FU_eq]; decide)
  have cls : ∀ (c r0 r : Int32), (-1 : Int32) ≤ c → J_X6_first (nI y) σ1 = some r0 → (if c = -1 then J_X6_drivesTo r0 σ1 else J_X6_wayTo r0 c σ1) = some r → J_X7_fewest (nI b) (nI y) c σ = some (r, σ1) := by
    intro c r0 r hk hr0 hr
    unfold J_X7_fewest
    rw [g.hb hb, bd1_s, if_neg n10, g.hs hy, bd1_s, if_neg n10, if_pos hk, jc_isOff g.cc hb, bd1_s, if_neg e, if_pos z00, r1, bd2_s, hr0, bd1_s]
    by_cases c1 : c = -1
    · rw [if_pos c1] at hr ⊢
      rw [hr, bd1_s]
    · rw [if_neg c1] at hr ⊢
      rw [hr, bd1_s]
  have w4 : ∀ c : Int32, J_X6_wayTo (-4) c σ1 = some (-4) := by
    intro c
    unfold J_X6_wayTo
    rw [FU_eq]
    show J_X6_wayTo_b5 (999999999999999 + 1) _ _ _ _ = _
    rw [J_X6_wayTo_b5, if_neg (by decide), if_pos (by decide)]
  have d4 : J_X6_drivesTo (-4) σ1 = some (-4) := by
    unfold J_X6_drivesTo
    rw [if_pos (by decide)]
  refine ⟨σ1, ?_, ?_, g.ahead (r3.mono fun a z => ⟨z.1, by omega⟩)⟩
  · unfold farI
    cases q : fsK (allT Λ s b 1000) y 73 0 with
    | none =>
      rw [q] at fi
      exact cls (-1) (-4) (-4) (by decide) fi (by rw [if_pos rfl]; exact d4)
    | some i =>
      rw [q] at fi
      obtain ⟨i1, i2, i3, i4⟩ := fsK_some 73 0 i q
      have fi2 : J_X6_first (nI y) σ1 = some (if 12 < tF (allT Λ s b 1000) i then -4 else nI i) := fi
      show _ = some (if 12 < tF (allT Λ s b 1000) i then -4 else nI (tF (allT Λ s b 1000) i), σ1)
      by_cases e12 : 12 < tF (allT Λ s b 1000) i
      · rw [if_pos e12] at fi2 ⊢
        exact cls (-1) (-4) (-4) (by decide) fi2 (by rw [if_pos rfl]; exact d4)
      · rw [if_neg e12] at fi2 ⊢
        exact cls (-1) (nI i) _ (by decide) fi2 (by rw [if_pos rfl, jc_drivesTo r2 k2 i2])
  · intro k hk
    obtain ⟨kk1, kk2⟩ := nI_lt72 hk
    unfold farW
    cases q : fsK (allT Λ s b 1000) y 73 0 with
    | none =>
      rw [q] at fi
      exact cls (nI k) (-4) (-4) kk1 fi (by rw [if_neg kk2]; exact w4 _)
    | some i =>
      rw [q] at fi
      obtain ⟨i1, i2, i3, i4⟩ := fsK_some 73 0 i q
      have fl := k1.F_le i i2
      have fi2 : J_X6_first (nI y) σ1 = some (if 12 < tF (allT Λ s b 1000) i then -4 else nI i) := fi
      show _ = some (if 12 < tF (allT Λ s b 1000) i then -4 else (if k < tF (allT Λ s b 1000) i then nI (tB (allT Λ s b 1000) (ancK (allT Λ s b 1000) (k + 1) 71 i)) else -4), σ1)
      by_cases e12 : 12 < tF (allT Λ s b 1000) i
      · rw [if_pos e12] at fi2 ⊢
        exact cls (nI k) (-4) (-4) kk1 fi2 (by rw [if_neg kk2]; exact w4 _)
      · rw [if_neg e12] at fi2 ⊢
        refine cls (nI k) (nI i) _ kk1 fi2 ?_
        rw [if_neg kk2]
        unfold J_X6_wayTo
        exact jc_wayTo k1 r2 k2 hk 71 i 0 FU i2 (by omega) (by decide) (by rw [FU_eq]; decide)
theorem g_stray (g : GC D σ Λ s h) (hD : D < 2 ^ 20) {b m : Nat} (hb : b < lNb Λ) (hm : m ≤ 6) (e : sP s b ≠ 36) : ∃ σ', J_X7_stray (nI b) (nI m) σ = some (nI (suN (strF (allT Λ s b 1000) m) (lSq Λ)), σ') ∧ GC D σ' Λ s h ∧ Fc σ σ' := by
  have hd := g.d
  have q1 := g.lk.sq
  have l6 : nI m ≤ (6 : Int32) := by rw [li_6, nI_leI (by omega) (by omega)]; exact hm
  obtain ⟨σ1, r1, r2, r3⟩ := jc_from g.cc hb e (by omega)
  obtain ⟨k1, k2⟩ := allT_ok g.lk g.sk hb e 1000
  obtain ⟨p1, p2, p3⟩ := allT_pre g.lk g.sk hb e m
  refine ⟨σ1, ?_, g.ahead (r3.mono fun a z => ⟨z.1, by omega⟩)⟩
  have su := cntK_su (t := allT Λ s b m) 36 0 0 rfl
  have sf : suN (fun x => if (fsK (allT Λ s b m) x 73 0).isSome = true then 1 else 0) 36 = suN (strF (allT Λ s b 1000) m) (lSq Λ) := by
    rw [← suN_tail (f := strF (allT Λ s b 1000) m) 36 q1.2.1 (fun i h1 h2 => ?_)]
    · refine suN_ext (fun x => ?_) 36
      obtain ⟨z1, z2, z3⟩ := fs_pre (x := x) p1 p2 p3 k2
      unfold strF
      cases q : fsK (allT Λ s b 1000) x 73 0 with
      | none => rw [z3 q]; rfl
      | some i =>
        show _ = if tF (allT Λ s b 1000) i ≤ m then 1 else 0
        by_cases c : tF (allT Λ s b 1000) i ≤ m
        · rw [(z1 i q c).1, if_pos c]; rfl
        · rw [z2 i q (by omega), if_neg c]; rfl
    · unfold strF
      cases q : fsK (allT Λ s b 1000) i 73 0 with
      | none => rfl
      | some j =>
        obtain ⟨i1, i2, i3, i4⟩ := fsK_some 73 0 j q
        have := (k1.2.2.2.1 j i2).2.1.1
        omega
  unfold J_X7_stray
  rw [g.hb hb, bd1_s, if_neg n10, if_neg (nI_nlt0 (by omega)), if_pos l6, jc_isOff g.cc hb, bd1_s, if_neg e, if_pos z00, r1, bd2_s]
  unfold J_X6_squaresWithin
  rw [show J_X6_squaresWithin_b4 FU (nI m) 0 0 σ1 = _ from jc_within (by omega) r2 k2 (fun i hi => by have := k1.F_le i hi; omega) p1 p2 p3 36 0 0 FU rfl (by rw [FU_eq]; decide), bd1_s, ← sf]
  have e0 : suN (fun x => if (fsK (allT Λ s b m) x 73 0).isSome = true then 1 else 0) 0 = 0 := rfl
  rw [show cntK (allT Λ s b m) 36 0 0 = suN (fun x => if (fsK (allT Λ s b m) x 73 0).isSome = true then 1 else 0) 36 by omega]
theorem g_stray0 (g : GC D σ Λ s h) {b : Nat} (hb : b < lNb Λ) (e : sP s b = 36) : J_X7_stray (nI b) 3 σ = some (-2, σ) := by
  unfold J_X7_stray
  rw [g.hb hb, bd1_s, if_neg n10, if_neg (by decide), if_pos (by decide), jc_isOff g.cc hb, bd1_s, if_pos e, if_neg n10]
theorem o0N_on {b : Nat} (hp : sP s b < 36) : onX (o0N s b) = sP s b := by
  unfold onX o0N
  split <;> omega
/-- what is known of a stand's square -/
theorem fs_facts (hΛ : LOK Λ) (hs : SOK Λ s) {b x : Nat} (hb : b < lNb Λ) (e : sP s b ≠ 36) (hx : x < lSq Λ) : (fsK (allT Λ s b 1000) x 73 0 = some 0 ↔ x = sP s b) ∧ ∀ i, fsK (allT Λ s b 1000) x 73 0 = some i → (tF (allT Λ s b 1000) i = 0 ↔ i = 0) ∧ lM Λ x ≠ 9 ∧ (i ≠ 0 → onN Λ s x = 8) ∧ tF (allT Λ s b 1000) i < 72 := by
  have p36 := SOK.p36 hΛ hs hb
  obtain ⟨k1, k2⟩ := allT_ok hΛ hs hb e 1000
  have o0 := o0N_on (s := s) (b := b) (by omega)
  have w0 : onX (tW (allT Λ s b 1000) 0) = sP s b := by rw [k1.2.1, o0]
  have c0 : fsK (allT Λ s b 1000) x 73 0 = some 0 ↔ x = sP s b := by
    constructor
    · intro q
      obtain ⟨i1, i2, i3, i4⟩ := fsK_some 73 0 0 q
      rw [← i3, w0]
    · intro q
      rw [fsK, if_pos (by have := k1.1; omega), if_pos (by rw [w0, q])]
  refine ⟨c0, fun i q => ?_⟩
  obtain ⟨i1, i2, i3, i4⟩ := fsK_some 73 0 i q
  have f := (k1.2.2.2.1 i i2).2.1
  rw [i3] at f
  have fl := k1.F_le i i2
  refine ⟨⟨fun z => ?_, fun z => by rw [z]; exact k1.2.2.1⟩, f.2.1, fun z => ?_, by omega⟩
  · by_cases i0 : i = 0
    · exact i0
    · have := (k1.2.2.2.2.2.1 i (by omega) i2).2.1
      omega
  · rcases onN_spec Λ s x hΛ.2.2.1.2 with ⟨y, -⟩ | ⟨y1, y2⟩
    · exact y
    · exfalso
      by_cases yb : onN Λ s x = b
      · rw [yb] at y2
        have := c0.mpr y2.symm
        rw [q] at this
        exact z (Option.some.inj this)
      · exact f.2.2 _ y1 yb y2
theorem strF_mono {t : WT} {m x : Nat} : strF t m x ≤ strF t (m + 1) x := by
  unfold strF
  cases fsK t x 73 0 with
  | none => exact Nat.le_refl _
  | some i =>
    show (if tF t i ≤ m then 1 else 0) ≤ (if tF t i ≤ m + 1 then 1 else 0)
    by_cases c : tF t i ≤ m
    · rw [if_pos c, if_pos (by omega)]; exact Nat.le_refl _
    · rw [if_neg c]; exact Nat.zero_le _
theorem str_one (hΛ : LOK Λ) (hs : SOK Λ s) {b : Nat} (hb : b < lNb Λ) (e : sP s b ≠ 36) : suN (strF (allT Λ s b 1000) 0) (lSq Λ) = 1 := by
  have lt : sP s b < lSq Λ := by rcases hs.2.1 b hb with z | z; exact absurd z e; exact z.1
  rw [suN_lt (g := fun i => if i = sP s b then 1 else 0) _ (fun x hx => ?_), suN_ind, if_pos lt]
  obtain ⟨f1, f2⟩ := fs_facts hΛ hs hb e hx
  unfold strF
  cases q : fsK (allT Λ s b 1000) x 73 0 with
  | none =>
    rw [if_neg (fun z => by have := f1.mpr z; rw [q] at this; cases this)]
  | some i =>
    obtain ⟨a1, a2, a3, a4⟩ := f2 i q
    show (if tF (allT Λ s b 1000) i ≤ 0 then 1 else 0) = _
    by_cases i0 : i = 0
    · rw [if_pos (by rw [a1.mpr i0]; exact Nat.le_refl _), if_pos (f1.mp (by rw [q, i0]))]
    · rw [if_neg (fun z => i0 (a1.mp (by omega))), if_neg (fun z => by have := f1.mpr z; rw [q] at this; exact i0 (Option.some.inj this))]
/-- the law's own row: cell f, 36 long -/
def FR36 (σ : Sg) (f : Nat) (t : WT) (n : Nat) : Prop := dl σ f = 36 ∧ ∀ i, i < n → σ f i = farI t i
theorem FR36.fc {σ' : Sg} {f n : Nat} {t : WT} (hf : NT ≤ f) (r : FR36 σ f t n) (c : Fc σ σ') : FR36 σ' f t n := by
  have e := c f (by have : NT = 143 := rfl; omega)
  refine ⟨?_, fun i hi => by rw [e]; exact r.2 i hi⟩
  have := r.1
  unfold dl at this ⊢
  rw [e]
  exact this
theorem farI_le {t : WT} {x : Nat} : farI t x = -4 ∨ ∃ n, n ≤ 12 ∧ farI t x = nI n ∧ strF t 12 x = 1 ∧ (∀ m, m ≤ 12 → strF t m x = if n ≤ m then 1 else 0) := by
  unfold farI strF
  cases fsK t x 73 0 with
  | none => exact Or.inl rfl
  | some i =>
    show (if 12 < tF t i then (-4 : Int32) else nI (tF t i)) = -4 ∨ _
    by_cases c : 12 < tF t i
    · rw [if_pos c]; exact Or.inl rfl
    · refine Or.inr ⟨tF t i, by omega, ?_, if_pos (by omega), fun m _ => rfl⟩
      show (if 12 < tF t i then (-4 : Int32) else nI (tF t i)) = _
      rw [if_neg c]
theorem farI_0 {t : WT} {x m : Nat} (hm : m ≤ 12) (e : farI t x = -4) : strF t m x = 0 := by
  unfold farI at e
  unfold strF
  cases q : fsK t x 73 0 with
  | none => rfl
  | some i =>
    rw [q] at e
    have e' : (if 12 < tF t i then (-4 : Int32) else nI (tF t i)) = -4 := e
    show (if tF t i ≤ m then 1 else 0) = 0
    by_cases c : 12 < tF t i
    · rw [if_neg (by omega)]
    · rw [if_neg c] at e'
      exact absurd e' (nI_nem4 (by omega))
theorem inb36 {x f : Nat} (hx : x < 36) (e : dl σ f = 36) : inb (nI x) (dl σ f) = true := by rw [e]; exact (inb_nI (by omega)).mpr hx
/-- how many are due by n drives -/
theorem ls_due (g : GC D σ Λ s h) (l : LX σ Λ) {f b n : Nat} (hn : n ≤ 6) (r : FR36 σ f (allT Λ s b 1000) (lSq Λ)) (y : Int32 → Int32 → Int32 → Sg → Option (Int32 × Nat × Sg)) (x2 : Int32) (H : Nat) (hH : H < 100) : ∀ (k x j : Nat), x + k = lSq Λ → k < j → J_L_strays_b204 f y j x2 (nI H) (nI n) (nI (suN (strF (allT Λ s b 1000) n) (lSq Λ))) (nI (suN (strF (allT Λ s b 1000) n) x)) (nI x) σ = (if suN (strF (allT Λ s b 1000) n) (lSq Λ) < H then some (0, f + 1, σ) else if n = 0 then (if suN (strF (allT Λ s b 1000) n) (lSq Λ) = 1 then y x2 (nI (suN (strF (allT Λ s b 1000) n) (lSq Λ))) (nI (n + 1)) σ else some (0, f + 1, σ)) else y x2 (nI (suN (strF (allT Λ s b 1000) n) (lSq Λ))) (nI (n + 1)) σ) := by
  have sq := g.lk.sq
  have bd : suN (strF (allT Λ s b 1000) n) (lSq Λ) ≤ lSq Λ := suN_le (fun i => by unfold strF; cases fsK (allT Λ s b 1000) i 73 0 with
    | none => exact Nat.zero_le _
    | some i => show (if _ then 1 else 0) ≤ 1; split <;> omega) _
  intro k
  induction k with
  | zero =>
    intro x j hx hj
    obtain ⟨j, rfl⟩ : ∃ i, j = i + 1 := ⟨j - 1, by omega⟩
    have ex : x = lSq Λ := by omega
    rw [J_L_strays_b204, l.1, ex, if_pos (Int32.le_refl _), if_pos rfl]
    by_cases c : suN (strF (allT Λ s b 1000) n) (lSq Λ) < H
    · rw [if_pos ((nI_ltI (by omega) (by omega)).mpr c), if_pos c]
    · rw [if_neg (fun z => c ((nI_ltI (by omega) (by omega)).mp z)), if_neg c, show nI n + (1 : Int32) = nI (n + 1) from by rw [li_1, nI_add]]
      by_cases c0 : n = 0
      · rw [if_pos (neq li_0 c0), if_pos c0]
        by_cases c1 : suN (strF (allT Λ s b 1000) n) (lSq Λ) = 1
        · rw [if_pos (neq li_1 c1), if_pos c1]
        · rw [if_neg (nne li_1 (by omega) (by omega) c1), if_neg c1]
      · rw [if_neg (nne li_0 (by omega) (by omega) c0), if_neg c0]
  | succ k ih =>
    intro x j hx hj
    obtain ⟨j, rfl⟩ : ∃ i, j = i + 1 := ⟨j - 1, by omega⟩
    have a1 : nI x + (1 : Int32) = nI (x + 1) := by rw [li_1, nI_add]
    have su : suN (strF (allT Λ s b 1000) n) (x + 1) = suN (strF (allT Λ s b 1000) n) x + strF (allT Λ s b 1000) n x := rfl
    have nx := ih (x + 1) j (by omega) (by omega)
    rw [su] at nx
    rw [J_L_strays_b204, l.1, if_neg (fun z => by have := (nI_leI (by omega) (by omega)).mp z; omega), if_pos (inb36 (by omega) r.1), nI_clamp (by omega), r.2 x (by omega), a1]
    rcases farI_le (t := allT Λ s b 1000) (x := x) with e | ⟨m, m1, m2, m3, m4⟩
    · rw [farI_0 (by omega) e, Nat.add_zero] at nx
      rw [e, if_pos (by decide), ad0]
      exact nx
    · rw [m2, if_neg (nI_nlt0 (by omega)), if_pos (inb36 (by omega) r.1)]
      rw [m4 n (by omega)] at nx
      by_cases c : n < m
      · rw [if_neg (by omega), Nat.add_zero] at nx
        rw [if_pos ((nI_ltI (by omega) (by omega)).mpr c), ad0]
        exact nx
      · rw [if_pos (by omega)] at nx
        rw [if_neg (fun z => c ((nI_ltI (by omega) (by omega)).mp z)), li_1, nI_add]
        exact nx
theorem ls_many (hD : D < 2 ^ 20) {f b : Nat} (hf : NT ≤ f) (hb : b < lNb Λ) (e : sP s b ≠ 36) : ∀ (k n j H : Nat) (σ : Sg), n + k = 7 → k < j → GC D σ Λ s h → LX σ Λ → FR36 σ f (allT Λ s b 1000) (lSq Λ) → H ≤ suN (strF (allT Λ s b 1000) n) (lSq Λ) → ∃ σ', J_L_strays_b182 f j (nI b) (nI H) (nI n) σ = some (1, f + 1, σ') ∧ GC D σ' Λ s h ∧ Fc σ σ' := by
  intro k
  induction k with
  | zero =>
    intro n j H σ hn hj g l r hH
    obtain ⟨j, rfl⟩ : ∃ i, j = i + 1 := ⟨j - 1, by omega⟩
    refine ⟨σ, ?_, g, Fc.rf⟩
    rw [J_L_strays_b182, if_pos (show (7 : Int32) ≤ nI n from by rw [show (7 : Int32) = nI 7 from rfl, nI_leI (by omega) (by omega)]; omega)]
  | succ k ih =>
    intro n j H σ hn hj g l r hH
    obtain ⟨j, rfl⟩ : ∃ i, j = i + 1 := ⟨j - 1, by omega⟩
    have sq := g.lk.sq
    have bd : suN (strF (allT Λ s b 1000) n) (lSq Λ) ≤ lSq Λ := suN_le (fun i => by unfold strF; cases fsK (allT Λ s b 1000) i 73 0 with
      | none => exact Nat.zero_le _
      | some i => show (if _ then 1 else 0) ≤ 1; split <;> omega) _
    obtain ⟨σ1, r1, r2, r3⟩ := g_stray g hD hb (show n ≤ 6 by omega) e
    have r' := r.fc hf r3
    obtain ⟨σ2, t1, t2, t3⟩ := ih (n + 1) j (suN (strF (allT Λ s b 1000) n) (lSq Λ)) σ1 (by omega) (by omega) r2 (l.fc r3) r' (suN_mono _ fun i _ => strF_mono)
    refine ⟨σ2, ?_, t2, r3.tr t3⟩
    have du := ls_due r2 (l.fc r3) (show n ≤ 6 by omega) r' (fun x2 x3 x5 σ => J_L_strays_b182 f j x2 x3 x5 σ) (nI b) H (by omega) (lSq Λ) 0 FU (by omega) (by rw [FU_eq]; omega)
    rw [if_neg (by omega)] at du
    have du2 : J_L_strays_b204 f (fun x2 x3 x5 σ => J_L_strays_b182 f j x2 x3 x5 σ) FU (nI b) (nI H) (nI n) (nI (suN (strF (allT Λ s b 1000) n) (lSq Λ))) (nI (suN (strF (allT Λ s b 1000) n) 0)) (nI 0) σ1 = some (1, f + 1, σ2) := by
      rw [du]
      by_cases c0 : n = 0
      · rw [if_pos c0, if_pos (by rw [c0]; exact str_one g.lk g.sk hb e)]
        exact t1
      · rw [if_neg c0]
        exact t1
    rw [J_L_strays_b182, if_neg (show ¬ (7 : Int32) ≤ nI n from by rw [show (7 : Int32) = nI 7 from rfl, nI_leI (by omega) (by omega)]; omega), r1, bd2_s]
    exact du2
/-- each square, one by one -/
theorem ls_far (hD : D < 2 ^ 20) {f b : Nat} (hf : NT ≤ f) (hb : b < lNb Λ) (e : sP s b ≠ 36) : ∀ (k x j : Nat) (σ : Sg), x + k = lSq Λ → k < j → GC D σ Λ s h → LX σ Λ → FR36 σ f (allT Λ s b 1000) x → ∃ σ', J_L_strays_b37 f j (nI b) 0 (nI x) σ = some (1, f + 1, σ') ∧ GC D σ' Λ s h ∧ ∀ a, 140 < a → a ≠ f → σ' a = σ a := by
  have n143 : NT = 143 := rfl
  intro k
  induction k with
  | zero =>
    intro x j σ hx hj g l r
    obtain ⟨j, rfl⟩ : ∃ i, j = i + 1 := ⟨j - 1, by omega⟩
    have ex : x = lSq Λ := by omega
    rw [ex] at r
    obtain ⟨σ1, r1, r2, r3⟩ := ls_many hD hf hb e 7 0 FU 0 σ rfl (by rw [FU_eq]; omega) g l r (Nat.zero_le _)
    refine ⟨σ1, ?_, r2, fun a h1 _ => r3 a h1⟩
    rw [J_L_strays_b37, l.1, ex, if_pos (Int32.le_refl _)]
    exact r1
  | succ k ih =>
    intro x j σ hx hj g l r
    obtain ⟨j, rfl⟩ : ∃ i, j = i + 1 := ⟨j - 1, by omega⟩
    have sq := g.lk.sq
    have hx' : x < lSq Λ := by omega
    have p36 := g.p36 hb
    have a1 : nI x + (1 : Int32) = nI (x + 1) := by rw [li_1, nI_add]
    obtain ⟨σ1, r1, -, r2, r3⟩ := g_few g hD hb hx' e
    obtain ⟨fx1, fx2⟩ := fs_facts g.lk g.sk hb e hx'
    have rr := r.fc hf r3
    have i1 : inb (nI x) (dl σ1 f) = true := inb36 (by omega) rr.1
    have df : dl (up σ1 f x (farI (allT Λ s b 1000) x)) f = 36 := by rw [dl_up (by rw [rr.1]; omega), rr.1]
    -- behind the store
    have g2 : GC D (up σ1 f x (farI (allT Λ s b 1000) x)) Λ s h := r2.fr (Fs.up (P := fun a _ => a = f) Fs.rf rfl) fun a j z => by omega
    have l2 : LX (up σ1 f x (farI (allT Λ s b 1000) x)) Λ := (l.fc r3).fr (up_ne (by omega))
    have f2 : FR36 (up σ1 f x (farI (allT Λ s b 1000) x)) f (allT Λ s b 1000) (x + 1) := by
      refine ⟨df, fun i hi => ?_⟩
      by_cases ei : i = x
      · rw [ei, up_s]
      · rw [up_i ei]; exact rr.2 i (by omega)
    have o2 : ∀ a, 140 < a → a ≠ f → up σ1 f x (farI (allT Λ s b 1000) x) a = σ a := fun a h1 h2 => by rw [up_ne h2]; exact r3 a h1
    have v2 : up σ1 f x (farI (allT Λ s b 1000) x) f x = farI (allT Λ s b 1000) x := up_s
    rw [J_L_strays_b37, l.1, if_neg (fun z => by have := (nI_leI (by omega) (by omega)).mp z; omega), r1, bd2_s, if_pos i1, nI_clamp (n := x) (by omega)]
    generalize up σ1 f x (farI (allT Λ s b 1000) x) = σ2 at df g2 l2 f2 o2 v2 ⊢
    have i2 : inb (nI x) (dl σ2 f) = true := inb36 (by omega) df
    -- the last question: the way behind the last
    have q142 : ∀ (σ3 : Sg) (c : Nat), c < 72 → GC D σ3 Λ s h → Fc σ2 σ3 → farW (allT Λ s b 1000) x c = -4 → (0 ≤ farI (allT Λ s b 1000) x → farI (allT Λ s b 1000) x = nI c) → (¬ 0 ≤ farI (allT Λ s b 1000) x → c = 0) → ∃ σ', J_L_strays_b142 f (fun x2 x3 x5 σ => J_L_strays_b37 f j x2 x3 x5 σ) (nI b) 0 (nI x) σ3 = some (1, f + 1, σ') ∧ GC D σ' Λ s h ∧ ∀ a, 140 < a → a ≠ f → σ' a = σ a := by
      intro σ3 c hc g3 c3 hw h1 h2
      obtain ⟨σ4, -, u1, u2, u3⟩ := g_few g3 hD hb hx' e
      have u1' := u1 c hc
      rw [hw] at u1'
      have f3 := f2.fc hf c3
      obtain ⟨σ5, t1, t2, t3⟩ := ih (x + 1) j σ4 (by omega) (by omega) u2 ((l2.fc c3).fc u3) (f3.fc hf u3)
      refine ⟨σ5, ?_, t2, fun a z1 z2 => by rw [t3 a z1 z2, u3 a z1, c3 a z1, o2 a z1 z2]⟩
      have i3 : inb (nI x) (dl σ3 f) = true := inb36 (by omega) f3.1
      unfold J_L_strays_b142
      rw [if_pos i3, nI_clamp (n := x) (by omega), f3.2 x (by omega)]
      by_cases c0 : 0 ≤ farI (allT Λ s b 1000) x
      · rw [if_pos c0, if_pos i3, h1 c0, u1', bd2_s, if_pos rfl, a1]
        exact t1
      · have := h2 c0
        rw [this] at u1'
        rw [if_neg c0, show J_X7_fewest (nI b) (nI x) 0 σ3 = _ from u1', bd2_s, if_pos rfl, a1]
        exact t1
    rw [if_pos i2, v2]
    -- by what the square is
    cases q : fsK (allT Λ s b 1000) x 73 0 with
    | none =>
      have e4 : farI (allT Λ s b 1000) x = -4 := by unfold farI; rw [q]
      have w4 : farW (allT Λ s b 1000) x 0 = -4 := by unfold farW; rw [q]
      obtain ⟨σ', t1, t2, t3⟩ := q142 σ2 0 (by decide) g2 Fc.rf w4 (fun z => absurd (by rw [e4] at z; exact z) (by decide)) (fun _ => rfl)
      refine ⟨σ', ?_, t2, t3⟩
      rw [e4, if_neg (by decide), if_pos i2, if_neg (by decide), if_pos i2, if_pos (by decide)]
      unfold J_L_strays_b107
      rw [if_pos i2, nI_clamp (n := x) (by omega), v2, e4, if_pos (by decide)]
      exact t1
    | some i =>
      obtain ⟨a1', a2, a3, a4⟩ := fx2 i q
      by_cases c12 : 12 < tF (allT Λ s b 1000) i
      · have e4 : farI (allT Λ s b 1000) x = -4 := by
          unfold farI
          rw [q]
          exact if_pos c12
        have w4 : farW (allT Λ s b 1000) x 0 = -4 := by
          unfold farW
          rw [q]
          exact if_pos c12
        obtain ⟨σ', t1, t2, t3⟩ := q142 σ2 0 (by decide) g2 Fc.rf w4 (fun z => absurd (by rw [e4] at z; exact z) (by decide)) (fun _ => rfl)
        refine ⟨σ', ?_, t2, t3⟩
        rw [e4, if_neg (by decide), if_pos i2, if_neg (by decide), if_pos i2, if_pos (by decide)]
        unfold J_L_strays_b107
        rw [if_pos i2, nI_clamp (n := x) (by omega), v2, e4, if_pos (by decide)]
        exact t1
      · have e4 : farI (allT Λ s b 1000) x = nI (tF (allT Λ s b 1000) i) := by
          unfold farI
          rw [q]
          exact if_neg c12
        have wF : ∀ k, farW (allT Λ s b 1000) x k = if k < tF (allT Λ s b 1000) i then nI (tB (allT Λ s b 1000) (ancK (allT Λ s b 1000) (k + 1) 71 i)) else -4 := by
          intro k
          unfold farW
          rw [q]
          exact if_neg c12
        have fin : ∀ σ3 : Sg, GC D σ3 Λ s h → Fc σ2 σ3 → ∃ σ', J_L_strays_b142 f (fun x2 x3 x5 σ => J_L_strays_b37 f j x2 x3 x5 σ) (nI b) 0 (nI x) σ3 = some (1, f + 1, σ') ∧ GC D σ' Λ s h ∧ ∀ a, 140 < a → a ≠ f → σ' a = σ a := fun σ3 g3 c3 => q142 σ3 (tF (allT Λ s b 1000) i) (by omega) g3 c3 (by rw [wF, if_neg (Nat.lt_irrefl _)]) (fun _ => e4) (fun z => absurd (by rw [e4]; exact nI_ge0 (by omega)) z)
        -- behind the square's grass
        have q107 : ∃ σ', J_L_strays_b107 f (fun x2 x3 x5 σ => J_L_strays_b37 f j x2 x3 x5 σ) (nI b) 0 (nI x) σ2 = some (1, f + 1, σ') ∧ GC D σ' Λ s h ∧ ∀ a, 140 < a → a ≠ f → σ' a = σ a := by
          by_cases i0 : i = 0
          · obtain ⟨σ', t1, t2, t3⟩ := fin σ2 g2 Fc.rf
            refine ⟨σ', ?_, t2, t3⟩
            unfold J_L_strays_b107
            rw [if_pos i2, nI_clamp (n := x) (by omega), v2, e4, a1'.mpr i0, if_pos (by decide)]
            exact t1
          · have f1 : 1 ≤ tF (allT Λ s b 1000) i := by
              have : tF (allT Λ s b 1000) i ≠ 0 := fun z => i0 (a1'.mp z)
              omega
            obtain ⟨σ3, -, u1, u2, u3⟩ := g_few g2 hD hb hx' e
            have u1' := u1 (tF (allT Λ s b 1000) i - 1) (by omega)
            rw [wF, if_pos (by omega)] at u1'
            obtain ⟨σ', t1, t2, t3⟩ := fin σ3 u2 u3
            refine ⟨σ', ?_, t2, t3⟩
            have tb : tB (allT Λ s b 1000) (ancK (allT Λ s b 1000) (tF (allT Λ s b 1000) i - 1 + 1) 71 i) < 4 := by
              obtain ⟨k1, k2⟩ := allT_ok g.lk g.sk hb e 1000
              obtain ⟨y1, y2, y3, y4⟩ := fsK_some 73 0 i q
              rw [show tF (allT Λ s b 1000) i - 1 + 1 = tF (allT Λ s b 1000) i by omega, ancK, if_pos (Nat.le_refl _)]
              exact (k1.2.2.2.2.2.1 i (by omega) y2).2.2
            unfold J_L_strays_b107
            rw [if_pos i2, nI_clamp (n := x) (by omega), v2, e4, if_neg (fun z => by have z' : nI (tF (allT Λ s b 1000) i) ≤ nI 0 := z; have := (nI_leI (by omega) (by omega)).mp z'; omega), g_sq1 g2 hx', bd1_s, a3 i0, if_neg (by decide), if_pos i2, li_1, nI_subI f1, u1', bd2_s, if_neg (nI_nlt0 (by omega))]
            exact t1
        obtain ⟨σ', t1, t2, t3⟩ := q107
        refine ⟨σ', ?_, t2, t3⟩
        rw [e4, if_neg (fun z => by have z' : nI 12 < nI (tF (allT Λ s b 1000) i) := z; have := (nI_ltI (by omega) (by omega)).mp z'; omega), if_pos i2]
        have gr : ∀ y : Option (Int32 × Nat × Sg), (if inb (nI x) (dl σ2 f) = true then (if nI (tF (allT Λ s b 1000) i) < 0 then y else (bd1 (J_X7_square (nI x) (0 : Int32) σ2) fun r99 => (if r99 = (9 : Int32) then (some ((0 : Int32), (f + 1), σ2)) else (J_L_strays_b107 f (fun x2 x3 x5 σ => J_L_strays_b37 f j x2 x3 x5 σ) (nI b) 0 (nI x) σ2)))) else none) = some (1, f + 1, σ') := by
          intro y
          have g8 := (g.sk.1 x hx').1
          rw [if_pos i2, if_neg (nI_nlt0 (by omega)), g_sq0 g2 hx', bd1_s, if_neg a2, if_neg (nne li_9 (by omega) (by omega) (by omega))]
          exact t1
        by_cases i0 : i = 0
        · have px := fx1.mp (by rw [q, i0])
          rw [a1'.mpr i0, if_pos (show nI 0 = 0 from rfl), g_pl g2 hb, bd1_s, plI_of e, if_pos (by rw [px])]
          have := gr (J_L_strays_b107 f (fun x2 x3 x5 σ => J_L_strays_b37 f j x2 x3 x5 σ) (nI b) 0 (nI x) σ2)
          rw [a1'.mpr i0] at this
          exact this
        · rw [if_neg (nne li_0 (by omega) (by omega) (fun z => i0 (a1'.mp z)))]
          exact gr _
theorem la_strays (g : GC D σ Λ s h) (l : LX σ Λ) (hD : D < 2 ^ 20) {f b : Nat} (hf : NT ≤ f) (hb : b < lNb Λ) : ∃ N σ', J_L_strays f (nI b) σ = some (1, N, σ') ∧ f ≤ N ∧ N ≤ f + 1 ∧ GC D σ' Λ s h ∧ ∀ a, 140 < a → a < f → σ' a = σ a := by
  have n143 : NT = 143 := rfl
  have p36 := g.p36 hb
  unfold J_L_strays
  rw [g_pl g hb, bd1_s]
  by_cases e : sP s b = 36
  · refine ⟨f, σ, ?_, Nat.le_refl _, by omega, g, fun _ _ _ => rfl⟩
    rw [if_neg (fun z => (plI_ge p36).mp z e), g_stray0 g hb e, bd2_s, if_pos rfl]
  · have g2 : GC D (nwa σ f 36) Λ s h := g.fr (R := fun a _ => a = f) (fun a j z => by rw [nwa_ne z]) fun a j z => by omega
    obtain ⟨σ1, r1, r2, r3⟩ := ls_far hD hf hb e (lSq Λ) 0 FU (nwa σ f 36) (by omega) (by have := g.lk.sq; rw [FU_eq]; omega) g2 (l.fr (nwa_ne (by omega))) ⟨dl_nwa (Nat.le_refl _), fun i hi => absurd hi (Nat.not_lt_zero i)⟩
    refine ⟨f + 1, σ1, ?_, by omega, Nat.le_refl _, r2, fun a h1 h2 => by rw [r3 a h1 (by omega), nwa_ne (by omega)]⟩
    rw [if_pos ((plI_ge p36).mpr e), show J_L_strays_b37 f FU (nI b) 0 0 (nwa σ f 36) = _ from r1]
    unfold ckA
    dsimp only
    rw [if_pos (Nat.le_refl _)]
end STR
