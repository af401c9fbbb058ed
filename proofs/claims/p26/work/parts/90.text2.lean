/-! the text, read by the class -/
def TC (σ : Sg) (L : Nat → Nat) (t : Nat) : Prop := σ 4 3 = nI t ∧ t ≤ 200 ∧ ∀ i, i < t → σ 5 i = nI (L i) ∧ L i < 1000
def RC (σ : Sg) (r : RT) : Prop := σ 6 0 = nI (rQ r) ∧ σ 6 1 = nI (rW r) ∧ σ 6 2 = nI (rR r) ∧ σ 6 3 = nI (rB r) ∧ σ 6 4 = plI (rWl r) ∧ σ 6 5 = nI (rBe r) ∧ σ 6 6 = nI (rSn r) ∧ (∀ x, x < rQ r → σ 10 x = nI (rG r x)) ∧ (∀ b, b < rB r → σ 7 b = nI (rV r b) ∧ σ 11 b = nI (rX r b) ∧ σ 12 b = nI (rK r b) ∧ σ 13 b = nI 0) ∧ (∀ k, k < rSn r → σ 8 k = nI (rS r k)) ∧ σ 9 5 = nI 0
def Rcl (a j : Nat) : Prop := (a = 4 ∧ j = 4) ∨ (6 ≤ a ∧ a ≤ 13)
theorem Rcl.no {a j : Nat} (h : Rcl a j) : (a = 4 ∧ j = 4) ∨ (6 ≤ a ∧ a ≤ 13) := h
section TEXT2
variable {σ : Sg} {L : Nat → Nat} {t h : Nat} {r : RT}
theorem TC.fr {σ' : Sg} (c : TC σ L t) (f : Fs Rcl σ σ') : TC σ' L t := by
  obtain ⟨c1, c2, c3⟩ := c
  refine ⟨?_, c2, fun i hi => ?_⟩
  · rw [f 4 3 (fun z => by have := z.no; omega)]; exact c1
  · rw [f 5 i (fun z => by have := z.no; omega)]; exact c3 i hi
theorem up4 {v : Int32} : Fs Rcl σ (up σ 4 4 v) := Fs.up (P := Rcl) Fs.rf (Or.inl ⟨rfl, rfl⟩)
theorem RC.up4 {v : Int32} (c : RC σ r) : RC (up σ 4 4 v) r := by
  obtain ⟨c0, c1, c2, c3, c4, c5, c6, c7, c8, c9, c10⟩ := c
  refine ⟨?_, ?_, ?_, ?_, ?_, ?_, ?_, fun x hx => ?_, fun b hb => ?_, fun k hk => ?_, ?_⟩
  · rw [up_n (by decide)]; exact c0
  · rw [up_n (by decide)]; exact c1
  · rw [up_n (by decide)]; exact c2
  · rw [up_n (by decide)]; exact c3
  · rw [up_n (by decide)]; exact c4
  · rw [up_n (by decide)]; exact c5
  · rw [up_n (by decide)]; exact c6
  · rw [up_n (by decide)]; exact c7 x hx
  · rw [up_n (by decide), up_n (by decide), up_n (by decide), up_n (by decide)]; exact c8 b hb
  · rw [up_n (by decide)]; exact c9 k hk
  · rw [up_n (by decide)]; exact c10
theorem TC.ch (c : TC σ L t) : chT L t h < 1000 := by
  unfold chT
  split
  · rename_i z; exact (c.2.2 h z).2
  · decide
theorem jc_let (c : TC σ L t) (e : σ 4 4 = nI h) (hh : h < 1000) : J_X5_letterAtHead σ = some (nI (chT L t h)) := by
  have t2 := c.2.1
  unfold J_X5_letterAtHead chT
  rw [e, c.1, if_neg (nI_nlt0 (by omega))]
  by_cases q : h < t
  · rw [if_neg (fun z => by have := (nI_leI (by omega) (by omega)).mp z; omega), if_neg (show ¬ (200 : Int32) ≤ nI h from by rw [li_200, nI_leI (by omega) (by omega)]; omega), if_pos ((inb_nI (by omega)).mpr (by omega)), nI_clamp (by omega), (c.2.2 h q).1, if_pos q]
  · rw [if_pos ((nI_leI (by omega) (by omega)).mpr (by omega)), if_neg q]
    rfl
theorem jc_fig41 (e : σ 4 4 = nI h) {v : Nat} (hv : v < 1000) : J_X5_readFigure_b41 (nI v) σ = if isF v = true then some (nI (v - 48), up σ 4 4 (nI (h + 1))) else some (-4, σ) := by
  have e48 : (48 : Int32) = nI 48 := rfl
  have e57 : (57 : Int32) = nI 57 := rfl
  unfold J_X5_readFigure_b41
  by_cases q : isF v = true
  · have f := isF_iff.mp q
    rw [if_pos q, e48, e57, if_neg (fun z => by have := (nI_ltI (by omega) (by omega)).mp z; omega), if_pos ((nI_leI (by omega) (by omega)).mpr f.2), nI_subI f.1, e, show nI h + (1 : Int32) = nI (h + 1) from by rw [li_1, nI_add]]
  · rw [if_neg q, e48, e57]
    by_cases q1 : v < 48
    · rw [if_pos ((nI_ltI (by omega) (by omega)).mpr q1)]
    · rw [if_neg (fun z => q1 ((nI_ltI (by omega) (by omega)).mp z)), if_neg (fun z => by
        have := (nI_leI (by omega) (by omega)).mp z
        exact q (isF_iff.mpr ⟨by omega, this⟩))]
theorem jc_fig (c : TC σ L t) (e : σ 4 4 = nI h) (hh : h < 1000) : J_X5_readFigure σ = if isF (chT L t h) = true then some (nI (chT L t h - 48), up σ 4 4 (nI (h + 1))) else some (-4, σ) := by
  have t2 := c.2.1
  rw [← jc_fig41 e (c.ch (h := h))]
  unfold J_X5_readFigure chT
  rw [e, c.1, if_neg (nI_nlt0 (by omega))]
  by_cases q : h < t
  · rw [if_neg (fun z => by have := (nI_leI (by omega) (by omega)).mp z; omega), if_neg (show ¬ (200 : Int32) ≤ nI h from by rw [li_200, nI_leI (by omega) (by omega)]; omega), if_pos ((inb_nI (by omega)).mpr (by omega)), nI_clamp (by omega), (c.2.2 h q).1, if_pos q]
  · rw [if_pos ((nI_leI (by omega) (by omega)).mpr (by omega)), if_neg q]
    rfl
def onI4 (o : Option Nat) : Int32 := match o with
  | some a => nI a
  | none => -4
theorem numT_le {L : Nat → Nat} {t h : Nat} : h ≤ (numT L t h).2 ∧ (numT L t h).2 ≤ h + 2 := by
  unfold numT
  split
  · split
    · exact ⟨show h ≤ h + 2 by omega, Nat.le_refl _⟩
    · exact ⟨show h ≤ h + 1 by omega, show h + 1 ≤ h + 2 by omega⟩
  · exact ⟨Nat.le_refl _, show h ≤ h + 2 by omega⟩
theorem jc_num (c : TC σ L t) (e : σ 4 4 = nI h) (hh : h < 900) : J_X5_readNumber σ = some (onI4 (numT L t h).1, up σ 4 4 (nI (numT L t h).2)) := by
  have c1 := c.ch (h := h)
  have c2 := c.ch (h := h + 1)
  unfold J_X5_readNumber
  rw [jc_fig c e (by omega)]
  unfold numT
  cases q : isF (chT L t h)
  · rw [if_neg (by decide), if_neg (by decide), bd2_s, if_pos (show (-4 : Int32) = -4 from rfl)]
    show some (-4, σ) = some (-4, up σ 4 4 (nI h))
    rw [← e, up_id]
  · have f := isF_iff.mp q
    have e1 : (up σ 4 4 (nI (h + 1))) 4 4 = nI (h + 1) := up_s
    rw [if_pos rfl, if_pos rfl, bd2_s, if_neg (nI_nem4 (by omega)), jc_fig (c.fr up4) e1 (by omega)]
    cases q2 : isF (chT L t (h + 1))
    · rw [if_neg (by decide), if_neg (by decide), bd2_s, if_pos (show (-4 : Int32) = -4 from rfl)]
      rfl
    · have f2 := isF_iff.mp q2
      rw [if_pos rfl, if_pos rfl, bd2_s, if_neg (nI_nem4 (by omega)), up_up, li_10, nI_mul, nI_add]
      rfl
theorem jc_pas (c : TC σ L t) (e : σ 4 4 = nI h) (hh : h < 1000) {v : Nat} (hv : v < 1000) : J_X5_passes (nI v) σ = if chT L t h = v then some (1, up σ 4 4 (nI (h + 1))) else some (0, σ) := by
  have c1 := c.ch (h := h)
  unfold J_X5_passes
  rw [jc_let c e hh, bd1_s, e, show nI h + (1 : Int32) = nI (h + 1) from by rw [li_1, nI_add]]
  by_cases q : chT L t h = v
  · rw [if_pos (by rw [q]), if_pos q]
  · rw [if_neg (fun z => q ((nI_inj (by omega) (by omega)).mp z)), if_neg q]
theorem jc_rgr (c : RC σ r) (ok : ROK r) {x : Nat} (hx : x < 1000) : J_X2_grassOn 9 (nI x) σ = some (nI (if x < rQ r then rG r x else 9)) := by
  have q36 := ok.q36
  have c0 : σ (lnd 9) 0 = nI (rQ r) := c.1
  unfold J_X2_grassOn
  rw [if_neg (nI_nlt0 (by omega)), c0]
  by_cases q : x < rQ r
  · rw [if_neg (fun z => by have := (nI_leI (by omega) (by omega)).mp z; omega), if_neg (show ¬ (36 : Int32) ≤ nI x from by rw [li_36, nI_leI (by omega) (by omega)]; omega), if_pos ((inb_nI (by omega)).mpr (by omega)), nI_clamp (by omega), if_pos q]
    exact congrArg some (c.2.2.2.2.2.2.2.1 x q)
  · rw [if_pos ((nI_leI (by omega) (by omega)).mpr (by omega)), if_neg q]
    rfl
theorem jc_dry (c : RC σ r) (ok : ROK r) {x : Nat} (hx : x < 1000) : ∃ v, J_X2_grassOn 9 (nI x) σ = some v ∧ (v = 9 ↔ dryT r x = false) := by
  refine ⟨_, jc_rgr c ok hx, ?_⟩
  unfold dryT
  by_cases q : x < rQ r
  · have g9 := ok.2.2.1 x q
    rw [if_pos q]
    constructor
    · intro z
      have := (nI_inj (b := 9) (by omega) (by omega)).mp z
      simp [this]
    · intro z
      simp [q] at z
      rw [z]; rfl
  · rw [if_neg q]
    simp [q]
    rfl
theorem jc_roccLoop (c : RC σ r) (ok : ROK r) {x : Nat} (hx : x < 36) : ∀ (k b j : Nat), b + k = 9 → 9 < b + j → ∃ v, J_X2_occupant_b9 9 j (nI x) (nI b) σ = some v ∧ (v = -4 ↔ ∀ a, b ≤ a → a < rB r → rX r a ≠ x) := by
  have b8 := ok.2.2.2.1
  have q36 := ok.q36
  have c3 : σ (lnd 9) 3 = nI (rB r) := c.2.2.2.1
  intro k
  induction k with
  | zero =>
    intro b j hb hj
    obtain ⟨j, rfl⟩ : ∃ i, j = i + 1 := ⟨j - 1, by omega⟩
    refine ⟨-4, ?_, fun _ a h1 h2 => by omega, fun _ => rfl⟩
    rw [J_X2_occupant_b9, c3, if_pos ((nI_leI (by omega) (by omega)).mpr (by omega))]
  | succ k ih =>
    intro b j hb hj
    obtain ⟨j, rfl⟩ : ∃ i, j = i + 1 := ⟨j - 1, by omega⟩
    by_cases q : b < rB r
    · have xb := (ok.2.2.2.2.1 b q).2.2.1
      have c11 : σ (9 + 2) b = nI (rX r b) := (c.2.2.2.2.2.2.2.2.1 b q).2.1
      rw [J_X2_occupant_b9, c3, if_neg (fun z => by have := (nI_leI (by omega) (by omega)).mp z; omega), if_neg (show ¬ (8 : Int32) ≤ nI b from by rw [li_8, nI_leI (by omega) (by omega)]; omega), if_pos ((inb_nI (by omega)).mpr (by omega)), nI_clamp (by omega), c11]
      by_cases e : rX r b = x
      · rw [if_pos (by rw [e])]
        exact ⟨nI b, rfl, fun z => absurd z (nI_nem4 (by omega)), fun z => absurd e (z b (Nat.le_refl _) q)⟩
      · rw [if_neg (fun z => e ((nI_inj (by omega) (by omega)).mp z)), show nI b + (1 : Int32) = nI (b + 1) from by rw [li_1, nI_add]]
        obtain ⟨v, v1, v2⟩ := ih (b + 1) j (by omega) (by omega)
        refine ⟨v, v1, fun z a h1 h2 => ?_, fun z => v2.mpr fun a h1 h2 => z a (by omega) h2⟩
        by_cases e2 : a = b
        · rw [e2]; exact e
        · exact v2.mp z a (by omega) h2
    · refine ⟨-4, ?_, fun _ a h1 h2 => by omega, fun _ => rfl⟩
      rw [J_X2_occupant_b9, c3, if_pos ((nI_leI (by omega) (by omega)).mpr (by omega))]
theorem jc_rocc (c : RC σ r) (ok : ROK r) {x : Nat} (hx : x < 36) : ∃ v, J_X2_occupant 9 (nI x) σ = some v ∧ (v = -4 ↔ memK (rX r) x (rB r) = false) := by
  unfold J_X2_occupant
  rw [if_pos (nI_ge0 (by omega))]
  obtain ⟨v, v1, v2⟩ := jc_roccLoop c ok hx 9 0 FU rfl (by rw [FU_eq]; omega)
  refine ⟨v, v1, v2.trans ⟨fun z => ?_, fun z a _ h2 e => ?_⟩⟩
  · cases y : memK (rX r) x (rB r)
    · rfl
    · obtain ⟨a, y1, y2⟩ := (memK_iff _).mp y
      exact absurd y2 (z a (Nat.zero_le _) y1)
  · have := (memK_iff (W := rX r) (o := x) (rB r)).mpr ⟨a, h2, e⟩
    rw [z] at this
    exact absurd this (by decide)
/-- a number told and a letter behind it -/
theorem jc_tok (c : TC σ L t) (e : σ 4 4 = nI h) (hh : h < 900) {v : Nat} (hv : v < 1000) : ∃ σ1 r8 σ2, J_X5_readNumber σ = some (onI4 (numT L t h).1, σ1) ∧ J_X5_passes (nI v) σ1 = some (r8, σ2) ∧ ((∃ a h', tokT L t v h = some (a, h') ∧ (numT L t h).1 = some a ∧ r8 = 1 ∧ σ2 = up σ 4 4 (nI h') ∧ a < 100 ∧ h' ≤ h + 3) ∨ (tokT L t v h = none ∧ (r8 = 0 ∨ (numT L t h).1 = none) ∧ (r8 = 0 ∨ r8 = 1) ∧ ∃ h', h' ≤ h + 3 ∧ σ2 = up σ 4 4 (nI h'))) := by
  have nl := @numT_le L t h
  have e1 : (up σ 4 4 (nI (numT L t h).2)) 4 4 = nI (numT L t h).2 := up_s
  have p := jc_pas (v := v) (c.fr up4) e1 (by omega) hv
  by_cases q : chT L t (numT L t h).2 = v
  · rw [if_pos q, up_up] at p
    refine ⟨_, _, _, jc_num c e hh, p, ?_⟩
    cases y : (numT L t h).1 with
    | none =>
      refine Or.inr ⟨by unfold tokT; rw [y], Or.inr rfl, Or.inr rfl, _, ?_, rfl⟩
      omega
    | some a =>
      have g := numT_gt y
      exact Or.inl ⟨a, (numT L t h).2 + 1, by unfold tokT; rw [y]; show (if chT L t (numT L t h).2 = v then some (a, (numT L t h).2 + 1) else none) = _; rw [if_pos q], rfl, rfl, rfl, g.2, by omega⟩
  · rw [if_neg q] at p
    refine ⟨_, _, _, jc_num c e hh, p, Or.inr ⟨?_, Or.inl rfl, Or.inl rfl, _, ?_, rfl⟩⟩
    · unfold tokT
      cases y : (numT L t h).1 with
      | none => rfl
      | some a =>
        show (if chT L t (numT L t h).2 = v then some (a, (numT L t h).2 + 1) else none) = none
        rw [if_neg q]
    · omega
end TEXT2
