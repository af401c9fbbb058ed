/-! all that one can come to: one beast set elsewhere; the stands in their order -/
def clrE (E b : Nat) : Nat := if E.testBit b = true then E - 2 ^ b else E
theorem clrE_all : ∀ E, E < 256 → ∀ b, b < 8 → clrE E b < 256 ∧ (nI E &&& (((1 : Int32) <<< (nI b &&& 31)) ^^^ (-1))) = nI (clrE E b) ∧ ∀ a, a < 8 → (clrE E b).testBit a = (decide (a ≠ b) && E.testBit a) := by decide +kernel
def setE (E b : Nat) (e : Bool) : Nat := if e = true then clrE E b ||| 2 ^ b else clrE E b
theorem setE_lt {E b : Nat} {e : Bool} (hE : E < 256) (hb : b < 8) : setE E b e < 256 := by
  unfold setE
  have h1 := (clrE_all E hE b hb).1
  split
  · exact Nat.or_lt_two_pow (n := 8) h1 (Nat.pow_lt_pow_right (by decide) hb)
  · exact h1
theorem setE_bit {E b a : Nat} {e : Bool} (hE : E < 256) (hb : b < 8) (ha : a < 8) : (setE E b e).testBit a = if a = b then e else E.testBit a := by
  have h1 := (clrE_all E hE b hb).2.2 a ha
  unfold setE
  cases e
  · rw [if_neg (by decide), h1]
    by_cases q : a = b
    · simp [q]
    · simp [q]
  · rw [if_pos rfl, Nat.testBit_or, h1, Nat.testBit_two_pow]
    by_cases q : a = b
    · simp [q]
    · have q' : ¬ b = a := fun z => q z.symm
      simp [q, q']
def stS (s : ST) (b x : Nat) (e : Bool) : ST := (sD s, sG s, fun a => if a = b then x else sP s a, sH s, setE (sE s) b e)
def kdS (Λ : LT) (b : Nat) (e : Bool) : Nat := if lKd Λ b = 2 ∧ e = true then 1 else lKd Λ b
theorem kdN_st {Λ : LT} {s : ST} {b x a : Nat} {e : Bool} (hE : sE s < 256) (hb : b < 8) (ha : a < 8) : kdN Λ (stS s b x e) a = if a = b then kdS Λ b e else kdN Λ s a := by
  unfold kdN kdS
  show (if lKd Λ a = 2 ∧ (setE (sE s) b e).testBit a = true then 1 else lKd Λ a) = _
  rw [setE_bit hE hb ha]
  by_cases q : a = b
  · rw [if_pos q, if_pos q, q]
  · rw [if_neg q, if_neg q]
theorem stS_st {s : ST} {b x y : Nat} {e f : Bool} : ewS (plS (stS s b x e) b y) (setE (sE s) b f) = stS s b y f := by
  unfold ewS plS stS
  show (sD s, sG s, (fun a => if a = b then y else if a = b then x else sP s a), sH s, setE (sE s) b f) = _
  congr 3
  congr 1
  funext a
  by_cases q : a = b
  · rw [if_pos q, if_pos q]
  · rw [if_neg q, if_neg q, if_neg q]
/-- a dry square where no other one is -/
def freeX (Λ : LT) (s : ST) (b x : Nat) : Prop := x < lSq Λ ∧ lM Λ x ≠ 9 ∧ ∀ a, a < lNb Λ → a ≠ b → sP s a ≠ x
theorem stS_ok {Λ : LT} {s : ST} (hΛ : LOK Λ) (h : SOK Λ s) {b x : Nat} {e : Bool} (hb : b < lNb Λ) (hp : sP s b ≠ 36) (hx : freeX Λ s b x) : SOK Λ (stS s b x e) := by
  obtain ⟨x1, x2, x3⟩ := hx
  obtain ⟨g, p, d, u, w⟩ := h
  have n8 := hΛ.2.2.1.2
  refine ⟨g, fun a ha => ?_, fun a a' ha ha' => ?_, fun a ha => ⟨(u a ha).1, fun z => ?_⟩, setE_lt w (by omega)⟩
  · show (if a = b then x else sP s a) = 36 ∨ (if a = b then x else sP s a) < lSq Λ ∧ lM Λ (if a = b then x else sP s a) ≠ 9
    by_cases q : a = b
    · rw [if_pos q]; exact Or.inr ⟨x1, x2⟩
    · rw [if_neg q]; exact p a ha
  · show (if a = b then x else sP s a) = (if a' = b then x else sP s a') → (if a = b then x else sP s a) ≠ 36 → a = a'
    by_cases q : a = b
    · rw [if_pos q]
      by_cases q' : a' = b
      · intro _ _; rw [q, q']
      · rw [if_neg q']; intro z _; exact absurd z.symm (x3 a' ha' q')
    · rw [if_neg q]
      by_cases q' : a' = b
      · rw [if_pos q']; intro z _; exact absurd z (x3 a ha q)
      · rw [if_neg q']; exact d a a' ha ha'
  · have z' : (if a = b then x else sP s a) ≠ 36 := z
    show sH s a ≤ lBe Λ
    by_cases q : a = b
    · rw [q]; exact (u b hb).2 hp
    · rw [if_neg q] at z'; exact (u a ha).2 z'
/-- a stand: a square, and 36 more where one is marked as a ewe -/
def onX (o : Nat) : Nat := o % 36
def onE (o : Nat) : Bool := decide (36 ≤ o)
def stO (s : ST) (b o : Nat) : ST := stS s b (onX o) (onE o)
def nbT (Λ : LT) (s : ST) (b o way : Nat) : Option Nat := if reachT Λ (stO s b o) b way false = 36 then none else some (reachT Λ (stO s b o) b way false + if (onE o || (decide (lKd Λ b = 2) && endN Λ (lVl Λ b) (reachT Λ (stO s b o) b way false))) = true then 36 else 0)
abbrev WT : Type := Nat × (Nat → Nat) × (Nat → Nat) × (Nat → Nat) × (Nat → Nat)
def tN (t : WT) : Nat := t.1
def tW (t : WT) : Nat → Nat := t.2.1
def tF (t : WT) : Nat → Nat := t.2.2.1
def tQ (t : WT) : Nat → Nat := t.2.2.2.1
def tB (t : WT) : Nat → Nat := t.2.2.2.2
def memK (W : Nat → Nat) (o : Nat) : Nat → Bool
  | 0 => false
  | n + 1 => memK W o n || decide (W n = o)
def memT (t : WT) (o : Nat) : Bool := memK (tW t) o (tN t)
theorem memK_iff {W : Nat → Nat} {o : Nat} : ∀ n, memK W o n = true ↔ ∃ i, i < n ∧ W i = o
  | 0 => ⟨fun z => absurd z (by simp [memK]), fun ⟨i, z, _⟩ => absurd z (Nat.not_lt_zero i)⟩
  | n + 1 => by
    unfold memK
    rw [Bool.or_eq_true, memK_iff n, decide_eq_true_eq]
    constructor
    · rintro (⟨i, z1, z2⟩ | z)
      · exact ⟨i, by omega, z2⟩
      · exact ⟨n, by omega, z⟩
    · rintro ⟨i, z1, z2⟩
      by_cases q : i = n
      · exact Or.inr (by rw [← q]; exact z2)
      · exact Or.inl ⟨i, by omega, z2⟩
theorem memT_iff {t : WT} {o : Nat} : memT t o = true ↔ ∃ i, i < tN t ∧ tW t i = o := memK_iff _
def appT (t : WT) (o f q w : Nat) : WT := (tN t + 1, fun i => if i = tN t then o else tW t i, fun i => if i = tN t then f else tF t i, fun i => if i = tN t then q else tQ t i, fun i => if i = tN t then w else tB t i)
def addT (t : WT) (o f q w : Nat) : WT := if memT t o = true then t else appT t o f q w
def nxT (Λ : LT) (s : ST) (b i w : Nat) (t : WT) : WT := match nbT Λ s b (tW t i) w with
  | none => t
  | some o => addT t o (tF t i + 1) i w
def wayT (Λ : LT) (s : ST) (b i : Nat) : Nat → Nat → WT → WT
  | 0, _, t => t
  | k + 1, w, t => wayT Λ s b i k (w + 1) (nxT Λ s b i w t)
def outT (Λ : LT) (s : ST) (b most : Nat) : Nat → Nat → WT → WT
  | 0, _, t => t
  | k + 1, i, t => if tN t ≤ i then t else outT Λ s b most k (i + 1) (if most ≤ tF t i then t else wayT Λ s b i 4 0 t)
def t0 (o : Nat) : WT := (1, fun _ => o, fun _ => 0, fun _ => 0, fun _ => 0)
/-- what holds of the stands found -/
def TOK (Λ : LT) (s : ST) (b o0 : Nat) (t : WT) : Prop := 1 ≤ tN t ∧ tW t 0 = o0 ∧ tF t 0 = 0
  ∧ (∀ i, i < tN t → tW t i < 72 ∧ freeX Λ s b (onX (tW t i)) ∧ (lKd Λ b ≠ 2 → onE (tW t i) = onE o0))
  ∧ (∀ i j, i < tN t → j < tN t → tW t i = tW t j → i = j)
  ∧ (∀ i, 1 ≤ i → i < tN t → tQ t i < i ∧ tF t i = tF t (tQ t i) + 1 ∧ tB t i < 4)
  ∧ (∀ i j, i ≤ j → j < tN t → tF t i ≤ tF t j)
/-- how many marks are seen -/
def seenN (t : WT) : Nat := suN (fun m => if memT t m = true then 1 else 0) 72
theorem suN_le {f : Nat → Nat} (h : ∀ i, f i ≤ 1) : ∀ n, suN f n ≤ n
  | 0 => Nat.le_refl 0
  | n + 1 => by
    show suN f n + f n ≤ n + 1
    have := suN_le h n
    have := h n
    omega
theorem suN_upd {f g : Nat → Nat} {m : Nat} (h : ∀ i, i ≠ m → g i = f i) (hm : g m = f m + 1) : ∀ n, suN g n = suN f n + if m < n then 1 else 0
  | 0 => rfl
  | n + 1 => by
    show suN g n + g n = suN f n + f n + if m < n + 1 then 1 else 0
    rw [suN_upd h hm n]
    by_cases q : n = m
    · rw [q, hm, if_neg (by omega), if_pos (by omega)]; omega
    · rw [h n q]
      by_cases q2 : m < n
      · rw [if_pos q2, if_pos (by omega)]; omega
      · rw [if_neg q2, if_neg (by omega)]; omega
theorem memT_app {t : WT} {o f q w m : Nat} : memT (appT t o f q w) m = true ↔ memT t m = true ∨ m = o := by
  rw [memT_iff, memT_iff]
  constructor
  · rintro ⟨i, z1, z2⟩
    have z1' : i < tN t + 1 := z1
    have z2' : (if i = tN t then o else tW t i) = m := z2
    by_cases q : i = tN t
    · rw [if_pos q] at z2'; exact Or.inr z2'.symm
    · rw [if_neg q] at z2'; exact Or.inl ⟨i, by omega, z2'⟩
  · rintro (⟨i, z1, z2⟩ | z)
    · refine ⟨i, show i < tN t + 1 by omega, ?_⟩
      show (if i = tN t then o else tW t i) = m
      rw [if_neg (by omega)]; exact z2
    · refine ⟨tN t, show tN t < tN t + 1 by omega, ?_⟩
      show (if tN t = tN t then o else tW t (tN t)) = m
      rw [if_pos rfl]; exact z.symm
theorem seenN_app {t : WT} {o f q w : Nat} (ho : o < 72) (hm : memT t o = false) : seenN (appT t o f q w) = seenN t + 1 := by
  unfold seenN
  rw [suN_upd (f := fun m => if memT t m = true then 1 else 0) (m := o), if_pos ho]
  · intro i hi
    have e : memT (appT t o f q w) i = memT t i := by
      cases q1 : memT t i
      · cases q2 : memT (appT t o f q w) i
        · rfl
        · rcases memT_app.mp q2 with z | z
          · rw [q1] at z; exact z.symm
          · exact absurd z hi
      · exact memT_app.mpr (Or.inl q1)
    show (if memT (appT t o f q w) i = true then 1 else 0) = _
    rw [e]
  · show (if memT (appT t o f q w) o = true then 1 else 0) = (if memT t o = true then 1 else 0) + 1
    rw [if_pos (memT_app.mpr (Or.inr rfl)), if_neg (by rw [hm]; decide)]
theorem seenN_lt {t : WT} {o : Nat} (ho : o < 72) (hm : memT t o = false) : seenN t < 72 := by
  have h1 := seenN_app (f := 0) (q := 0) (w := 0) ho hm
  have h2 : seenN (appT t o 0 0 0) ≤ 72 := suN_le (fun i => by split <;> omega) 72
  omega
theorem seenN_le {t : WT} : seenN t ≤ 72 := suN_le (fun i => by split <;> omega) 72
theorem app_lt {t : WT} {o f q w i : Nat} (h : i < tN t) : tW (appT t o f q w) i = tW t i ∧ tF (appT t o f q w) i = tF t i ∧ tQ (appT t o f q w) i = tQ t i ∧ tB (appT t o f q w) i = tB t i :=
  ⟨if_neg (by omega), if_neg (by omega), if_neg (by omega), if_neg (by omega)⟩
theorem app_eq {t : WT} {o f q w : Nat} : tW (appT t o f q w) (tN t) = o ∧ tF (appT t o f q w) (tN t) = f ∧ tQ (appT t o f q w) (tN t) = q ∧ tB (appT t o f q w) (tN t) = w := ⟨if_pos rfl, if_pos rfl, if_pos rfl, if_pos rfl⟩
theorem t0_ok {Λ : LT} {s : ST} {b o : Nat} (ho : o < 72) (hf : freeX Λ s b (onX o)) : TOK Λ s b o (t0 o) ∧ tN (t0 o) = seenN (t0 o) := by
  refine ⟨⟨Nat.le_refl _, rfl, rfl, fun i _ => ⟨ho, hf, fun _ => rfl⟩, fun i j hi hj _ => ?_, fun i h1 h2 => ?_, fun i j _ _ => Nat.le_refl _⟩, ?_⟩
  · have : i < 1 := hi
    have : j < 1 := hj
    omega
  · have : i < 1 := h2
    omega
  · have e : ∀ m, memT (t0 o) m = decide (o = m) := fun m => by
      show (false || decide (o = m)) = _
      rw [Bool.false_or]
    show 1 = suN _ 72
    rw [suN_upd (f := fun _ => 0) (m := o), if_pos ho]
    · have : ∀ n, suN (fun _ => 0) n = 0 := fun n => by
        induction n with
        | zero => rfl
        | succ n ih => show suN (fun _ => 0) n + 0 = 0; rw [ih]
      rw [this]
    · intro i hi
      show (if memT (t0 o) i = true then 1 else 0) = 0
      rw [e, if_neg (by simpa using fun z => hi z.symm)]
    · show (if memT (t0 o) o = true then 1 else 0) = 0 + 1
      rw [e, if_pos (by simp)]
/-- where one comes to from a stand is a stand -/
theorem nbT_ok {Λ : LT} {s : ST} (hΛ : LOK Λ) (hs : SOK Λ s) {b o w p : Nat} (hb : b < lNb Λ) (hp : sP s b ≠ 36) (ho : freeX Λ s b (onX o)) (hw : w < 4) (h : nbT Λ s b o w = some p) : p < 72 ∧ freeX Λ s b (onX p) ∧ onX p = reachT Λ (stO s b o) b w false ∧ reachT Λ (stO s b o) b w false ≠ 36 ∧ onN Λ (stO s b o) (reachT Λ (stO s b o) b w false) = 8 ∧ onE p = (onE o || (decide (lKd Λ b = 2) && endN Λ (lVl Λ b) (reachT Λ (stO s b o) b w false))) ∧ (lKd Λ b ≠ 2 → onE p = onE o) := by
  have h36 := hΛ.sq.2.1
  have n8 := hΛ.2.2.1.2
  unfold nbT at h
  by_cases e : reachT Λ (stO s b o) b w false = 36
  · rw [if_pos e] at h; exact absurd h (by simp)
  · rw [if_neg e] at h
    have ok := reachT_ok hΛ (stS_ok (e := onE o) hΛ hs hb hp ho) hb hw e
    have on8 := openN_off ok.2.2
    have fr : freeX Λ s b (reachT Λ (stO s b o) b w false) := by
      refine ⟨ok.1, ok.2.1, fun a ha hne => ?_⟩
      rcases onN_spec Λ (stO s b o) (reachT Λ (stO s b o) b w false) n8 with ⟨z1, z2⟩ | ⟨z1, z2⟩
      · have := z2 a ha
        have q : (if a = b then onX o else sP s a) ≠ reachT Λ (stO s b o) b w false := this
        rw [if_neg hne] at q
        exact q
      · have on8' : onN Λ (stO s b o) (reachT Λ (stO s b o) b w false) = 8 := on8
        omega
    have ok1 : reachT Λ (stO s b o) b w false < lSq Λ := ok.1
    have on8' : onN Λ (stO s b o) (reachT Λ (stO s b o) b w false) = 8 := on8
    have hp2 := Option.some.inj h
    generalize reachT Λ (stO s b o) b w false = x at e ok1 fr on8' hp2 ⊢
    cases q : (onE o || (decide (lKd Λ b = 2) && endN Λ (lVl Λ b) x))
    · rw [q, if_neg (by decide)] at hp2
      have e1 : onX p = x := by unfold onX; omega
      have e2 : onE p = false := by unfold onE; simp; omega
      refine ⟨by omega, by rw [e1]; exact fr, e1, e, on8', e2, fun _ => ?_⟩
      rw [e2]
      cases q2 : onE o
      · rfl
      · rw [q2] at q; simp at q
    · rw [q, if_pos rfl] at hp2
      have e1 : onX p = x := by unfold onX; omega
      have e2 : onE p = true := by unfold onE; simp; omega
      refine ⟨by omega, by rw [e1]; exact fr, e1, e, on8', e2, fun z => ?_⟩
      rw [e2]
      cases q2 : onE o
      · rw [q2] at q; simp [z] at q
      · rfl
