/-! what is won by turns; the class -/
def gmU (t d : Nat) (w : Int32) (a : Int32 × Int32) : Int32 × Int32 := if a.1 = -4 then (nI d, w) else if t = 0 then (if a.2 < w then (nI d, w) else a) else (if w < a.2 then (nI d, w) else a)
def gmF (v : ST → Int32) (Λ : LT) (s : ST) : Nat → Nat → Int32 × Int32 → Int32 × Int32
  | 0, _, a => a
  | k + 1, d, a => gmF v Λ s k (d + 1) (if d = 99 ∨ drvN Λ s (d / 10) (d % 10) ≠ 36 then gmU (sD s % 2) d (v (livS Λ s d)) a else a)
def gmV (Λ : LT) : Nat → ST → Int32 × Int32
  | 0, s => (-4, worI Λ s)
  | m + 1, s => if lostI Λ s = 0 then gmF (fun s' => (gmV Λ m s').2) Λ s 100 0 (-4, 0) else (-4, worI Λ s)
section GAME
variable {σ : Sg} {D : Nat} {Λ : LT} {s : ST}
/-- the level behind this one -/
theorem jc_passL {l d : Nat} (hl : l + 1 < 9) (h : CC σ (pm 94 l) Λ s) (hd : sD s < 2 ^ 28) (hc : d = 99 ∨ drvN Λ s (d / 10) (d % 10) ≠ 36) (hd2 : d < 1000) : ∃ σ', J_X0_pass (nI l) (if d = 99 then -4 else nI (d / 10)) (if d = 99 then -4 else nI (drvN Λ s (d / 10) (d % 10))) σ = some (pm 94 (l + 1), σ') ∧ CC σ' (pm 94 (l + 1)) Λ (livS Λ s d) ∧ Fr (fun a => pm 94 (l + 1) ≤ a ∧ a ≤ pm 94 (l + 1) + 4) σ σ' := by
  have p1 := pm94 (show l < 9 by omega)
  have p2 := pm94 hl
  have p3 := p1.2.2 hl
  obtain ⟨σ1, r1, r2, r3⟩ := jc_like (c := pm 94 (l + 1)) h (lnd94 (by omega)) (lnd94 hl) (by omega) (by omega)
  unfold J_X0_pass livS
  rw [show nI l + (1 : Int32) = nI (l + 1) from by rw [li_1, nI_add], j4_get (show l + 1 < pln 94 from hl) (by decide), bd1_s, j4_get (show l < pln 94 from (show l < 9 by omega)) (by decide), bd1_s, r1, bd2_s]
  by_cases e : d = 99
  · rw [if_pos e, if_pos e, if_pos e, if_pos (show (-4 : Int32) = -4 from rfl)]
    obtain ⟨σ2, t1, t2, t3⟩ := jc_pass r2 (by omega) (by omega)
    refine ⟨σ2, ?_, t2, r3.tr t3⟩
    rw [t1, bd2_s]
  · have e1 : drvN Λ s (d / 10) (d % 10) ≠ 36 := by rcases hc with z | z; exact absurd z e; exact z
    obtain ⟨q1, q2, q3, q4, q5, q6, q7, q8, q9⟩ := drvN_ok h.2.2.1 h.2.2.2 e1
    have h8 := h.nb8
    rw [if_neg e, if_neg e, if_neg e1, if_neg e, if_neg (nI_nem4 (by omega))]
    obtain ⟨σ2, v1, v2, v3⟩ := jc_move r2 (by omega) q1 q4 q8 q9
    obtain ⟨σ3, t1, t2, t3⟩ := jc_pass v2 (by omega) (show sD s < 2 ^ 29 by omega)
    refine ⟨σ3, ?_, t2, r3.tr (Fr.tr (v3.mono fun a z => by omega) t3)⟩
    rw [v1, bd2_s, t1, bd2_s]
theorem jc_gm55 {l m n : Nat} (rc : Int32 → Int32 → Sg → Option (Int32 × Sg)) (hl : l + 1 < 9) (hd : sD s + m + 1 < 2 ^ 28)
    (hrc : ∀ s' σ, sD s' + m < 2 ^ 28 → CC σ (pm 94 (l + 1)) Λ s' → ∃ σ', rc (nI (l + 1)) (nI n) σ = some ((gmV Λ m s').2, σ') ∧ Fr (fun a => a = 92 ∨ (pm 94 (l + 1) + 4 < a ∧ a ≤ 140)) σ σ') :
    ∀ (k d j : Nat) (a : Int32 × Int32) (σ : Sg), d + k = 100 → k < j → CC σ (pm 94 l) Λ s → ∃ σ', J_X0_worthFrom_b55 rc j (nI l) (nI n) (pm 94 l) (if sD s % 2 = 0 then 1 else 0) a.1 a.2 (nI d) σ = some ((gmF (fun s' => (gmV Λ m s').2) Λ s k d a).2, σ') ∧ σ' 92 4 = (gmF (fun s' => (gmV Λ m s').2) Λ s k d a).1 ∧ Fr (fun a => a = 92 ∨ (pm 94 l + 4 < a ∧ a ≤ 140)) σ σ' := by
  have p1 := pm94 (show l < 9 by omega)
  have p2 := pm94 hl
  have p3 := p1.2.2 hl
  intro k
  induction k with
  | zero =>
    intro d j a σ hi hj h
    obtain ⟨j, rfl⟩ : ∃ i, j = i + 1 := ⟨j - 1, by omega⟩
    rw [J_X0_worthFrom_b55, if_pos (show (99 : Int32) < nI d from by rw [li_99, nI_ltI (by omega) (by omega)]; omega)]
    exact ⟨_, rfl, up_s, Fr.up (P := fun a => a = 92 ∨ (pm 94 l + 4 < a ∧ a ≤ 140)) Fr.rf (Or.inl rfl)⟩
  | succ k ih =>
    intro d j a σ hi hj h
    obtain ⟨j, rfl⟩ : ∃ i, j = i + 1 := ⟨j - 1, by omega⟩
    have a1 : nI d + (1 : Int32) = nI (d + 1) := by rw [li_1, nI_add]
    rw [J_X0_worthFrom_b55, if_neg (show ¬ (99 : Int32) < nI d from by rw [li_99, nI_ltI (by omega) (by omega)]; omega), gmF]
    have go : (d = 99 ∨ drvN Λ s (d / 10) (d % 10) ≠ 36) → ∃ σ', J_X0_worthFrom_b126 rc (fun x1 x2 x3 x4 x5 x6 x7 σ => J_X0_worthFrom_b55 rc j x1 x2 x3 x4 x5 x6 x7 σ) (nI l) (nI n) (pm 94 l) (if sD s % 2 = 0 then 1 else 0) a.1 a.2 (nI d) (if d = 99 then -4 else nI (drvN Λ s (d / 10) (d % 10))) (if d = 99 then -4 else nI (d / 10)) (nI l) σ = some ((gmF (fun s' => (gmV Λ m s').2) Λ s k (d + 1) (gmU (sD s % 2) d (gmV Λ m (livS Λ s d)).2 a)).2, σ') ∧ σ' 92 4 = (gmF (fun s' => (gmV Λ m s').2) Λ s k (d + 1) (gmU (sD s % 2) d (gmV Λ m (livS Λ s d)).2 a)).1 ∧ Fr (fun a => a = 92 ∨ (pm 94 l + 4 < a ∧ a ≤ 140)) σ σ' := by
      intro hc
      obtain ⟨σ1, r1, r2, r3⟩ := jc_passL hl h (by omega) hc (by omega)
      obtain ⟨σ2, t1, t2⟩ := hrc (livS Λ s d) σ1 (by rw [livS_D]; omega) r2
      have F : Fr (fun a => a = 92 ∨ (pm 94 l + 4 < a ∧ a ≤ 140)) σ σ2 := (r3.mono fun a z => Or.inr ⟨by omega, by omega⟩).tr (t2.mono fun a z => by omega)
      have h2 : CC σ2 (pm 94 l) Λ s := h.keep (lnd94 (by omega)) F (by omega) (by omega) (by omega) (fun a z1 z2 => by omega)
      have fin : ∀ a', gmU (sD s % 2) d (gmV Λ m (livS Λ s d)).2 a = a' → ∃ σ', J_X0_worthFrom_b55 rc j (nI l) (nI n) (pm 94 l) (if sD s % 2 = 0 then 1 else 0) a'.1 a'.2 (nI (d + 1)) σ2 = some ((gmF (fun s' => (gmV Λ m s').2) Λ s k (d + 1) (gmU (sD s % 2) d (gmV Λ m (livS Λ s d)).2 a)).2, σ') ∧ σ' 92 4 = (gmF (fun s' => (gmV Λ m s').2) Λ s k (d + 1) (gmU (sD s % 2) d (gmV Λ m (livS Λ s d)).2 a)).1 ∧ Fr (fun a => a = 92 ∨ (pm 94 l + 4 < a ∧ a ≤ 140)) σ σ' := by
        intro a' ha'
        rw [ha']
        obtain ⟨σ3, y1, y2, y3⟩ := ih (d + 1) j a' σ2 (by omega) (by omega) h2
        exact ⟨σ3, y1, y2, F.tr y3⟩
      unfold J_X0_worthFrom_b126
      rw [r1, bd2_s, show nI l + (1 : Int32) = nI (l + 1) from by rw [li_1, nI_add], t1, bd2_s, a1]
      generalize (gmV Λ m (livS Λ s d)).2 = w at fin ⊢
      by_cases e1 : a.1 = -4
      · rw [if_pos e1]
        exact fin (nI d, w) (by unfold gmU; rw [if_pos e1])
      · rw [if_neg e1]
        by_cases e2 : sD s % 2 = 0
        · rw [if_pos e2] at fin ⊢
          rw [if_neg n10]
          by_cases e3 : a.2 < w
          · rw [if_neg (Int32.not_le.mpr e3)]
            exact fin (nI d, w) (by unfold gmU; rw [if_neg e1, if_pos e2, if_pos e3])
          · rw [if_pos (Int32.not_lt.mp e3)]
            exact fin a (by unfold gmU; rw [if_neg e1, if_pos e2, if_neg e3])
        · rw [if_neg e2] at fin ⊢
          rw [if_pos z00]
          by_cases e3 : w < a.2
          · rw [if_neg (Int32.not_le.mpr e3)]
            exact fin (nI d, w) (by unfold gmU; rw [if_neg e1, if_neg e2, if_pos e3])
          · rw [if_pos (Int32.not_lt.mp e3)]
            exact fin a (by unfold gmU; rw [if_neg e1, if_neg e2, if_neg e3])
    by_cases e : d = 99
    · rw [if_pos (neq li_99 e), if_pos (Or.inl e)]
      unfold J_X0_worthFrom_b88
      rw [if_pos (show (-4 : Int32) = -4 from rfl), if_pos (neq li_99 e), if_pos (neq li_99 e)]
      have g := go (Or.inl e)
      rw [if_pos e, if_pos e] at g
      exact g
    · have dl := drvN_le h.2.2.1 h.2.2.2 (b := d / 10) (way := d % 10)
      rw [if_neg (nne li_99 (by omega) (by omega) e), li_10, nI_div (by omega) (by omega), rmI_nI (by omega) (by omega), jc_driven h (by omega) (by omega) (by omega), bd1_s]
      unfold J_X0_worthFrom_b88
      by_cases e1 : drvN Λ s (d / 10) (d % 10) = 36
      · rw [if_pos ((plI_lt _ dl).mpr e1), if_neg (nne li_99 (by omega) (by omega) e), if_neg (show ¬ (d = 99 ∨ drvN Λ s (d / 10) (d % 10) ≠ 36) from fun z => by rcases z with z | z; exact e z; exact z e1), a1]
        exact ih (d + 1) j a σ (by omega) (by omega) h
      · rw [if_neg (fun z => e1 ((plI_lt _ dl).mp z)), if_neg (nne li_99 (by omega) (by omega) e), if_pos (Or.inr e1), plI_of e1, li_10, nI_div (by omega) (by omega)]
        have g := go (Or.inr e1)
        rw [if_neg e, if_neg e] at g
        exact g
theorem jc_gm {n : Nat} (hn : n ≤ 3) : ∀ (m l j : Nat) (s : ST) (σ : Sg), l + m = n → m < j → sD s + m < 2 ^ 28 → CC σ (pm 94 l) Λ s → ∃ σ', J_X0_worthFrom j (nI l) (nI n) σ = some ((gmV Λ m s).2, σ') ∧ (1 ≤ m → lostI Λ s = 0 → σ' 92 4 = (gmV Λ m s).1) ∧ Fr (fun a => a = 92 ∨ (pm 94 l + 4 < a ∧ a ≤ 140)) σ σ' := by
  intro m
  induction m with
  | zero =>
    intro l j s σ hi hj hd h
    obtain ⟨j, rfl⟩ : ∃ i, j = i + 1 := ⟨j - 1, by omega⟩
    refine ⟨σ, ?_, fun z => absurd z (by decide), Fr.rf⟩
    rw [J_X0_worthFrom]
    show J_X0_worthFrom_body (J_X0_worthFrom j) (nI l) (nI n) σ = _
    unfold J_X0_worthFrom_body
    rw [j4_get (show l < pln 94 from (show l < 9 by omega)) (by decide), bd1_s, if_pos ((nI_leI (by omega) (by omega)).mpr (by omega)), jc_worth h, bd1_s]
    rfl
  | succ m ih =>
    intro l j s σ hi hj hd h
    obtain ⟨j, rfl⟩ : ∃ i, j = i + 1 := ⟨j - 1, by omega⟩
    rw [J_X0_worthFrom]
    show ∃ σ', J_X0_worthFrom_body (J_X0_worthFrom j) (nI l) (nI n) σ = _ ∧ _
    unfold J_X0_worthFrom_body
    rw [j4_get (show l < pln 94 from (show l < 9 by omega)) (by decide), bd1_s, if_neg (fun z => by have := (nI_leI (by omega) (by omega)).mp z; omega), if_neg (show ¬ (3 : Int32) ≤ nI l from by rw [li_3, nI_leI (by omega) (by omega)]; omega), jc_lost h, bd1_s]
    by_cases e : lostI Λ s = 0
    · rw [if_pos e, jc_turn h (by omega), bd1_s]
      have gv : gmV Λ (m + 1) s = gmF (fun s' => (gmV Λ m s').2) Λ s 100 0 (-4, 0) := by rw [gmV, if_pos e]
      obtain ⟨σ1, r1, r2, r3⟩ := jc_gm55 (n := n) (J_X0_worthFrom j) (show l + 1 < 9 by omega) (show sD s + m + 1 < 2 ^ 28 by omega) (fun s' σ z1 z2 => by
        obtain ⟨σ', y1, _, y3⟩ := ih (l + 1) j s' σ (by omega) (by omega) z1 z2
        exact ⟨σ', y1, y3⟩) 100 0 FU (-4, 0) σ (by omega) (by rw [FU_eq]; omega) h
      rw [← gv] at r1 r2
      refine ⟨σ1, ?_, fun _ _ => r2, r3⟩
      by_cases e2 : sD s % 2 = 0
      · rw [if_pos e2] at r1
        rw [if_pos (neq li_0 e2)]
        exact r1
      · rw [if_neg e2] at r1
        rw [if_neg (nne li_0 (by omega) (by omega) e2)]
        exact r1
    · refine ⟨σ, ?_, fun _ z => absurd z e, Fr.rf⟩
      rw [if_neg e, jc_worth h, bd1_s, gmV, if_neg e]
end GAME
