/-! the fewest days to the well; the class's search -/
section SUMMER2
variable {σ : Sg} {D : Nat} {Λ : LT} {s : ST}
def sI (o : Option (List Nat)) : Int32 := if o.isSome = true then 1 else 0
theorem smF_child {v m d : Nat} (hl : lostI Λ s = 0) (h : smF Λ v m s = none) (hc : d = 99 ∨ drvN Λ s (d / 10) (d % 10) ≠ 36) (hd : d < 100) (ht : sD s % 2 = v ∨ d = 99) (hs : staN Λ (livS Λ s d) v = staN Λ s v) : m = 0 ∨ smF Λ v (m - 1) (livS Λ s d) = none := by
  cases m with
  | zero => exact Or.inl rfl
  | succ m =>
    refine Or.inr ?_
    show smF Λ v m (livS Λ s d) = none
    rw [smF, if_pos hl] at h
    by_cases e : sD s % 2 = v
    · rw [if_pos e] at h
      exact smL_none 100 0 h d (Nat.zero_le _) (by omega) hc hs
    · rw [if_neg e] at h
      have d9 : d = 99 := by rcases ht with z | z; exact absurd z e; exact z
      exact smL_none 1 99 h d (by omega) (by omega) hc hs
theorem smL_hit {v k d : Nat} {rec : ST → Option (List Nat)} {r : List Nat} (hc : d = 99 ∨ drvN Λ s (d / 10) (d % 10) ≠ 36) (hs : staN Λ (livS Λ s d) v = staN Λ s v) (hr : rec (livS Λ s d) = some r) : smL Λ v rec s (k + 1) d = some (d :: r) := by
  rw [smL, if_pos ⟨hc, hs⟩, hr]
theorem smL_miss {v k d : Nat} {rec : ST → Option (List Nat)} (h : (d = 99 ∨ drvN Λ s (d / 10) (d % 10) ≠ 36) → staN Λ (livS Λ s d) v = staN Λ s v → rec (livS Λ s d) = none) : smL Λ v rec s (k + 1) d = smL Λ v rec s k (d + 1) := by
  rw [smL]
  by_cases c : (d = 99 ∨ drvN Λ s (d / 10) (d % 10) ≠ 36) ∧ staN Λ (livS Λ s d) v = staN Λ s v
  · rw [if_pos c, h c.1 c.2]
  · rw [if_neg c]
theorem jc_sm120 {l n m v own : Nat} (rc : Int32 → Int32 → Int32 → Int32 → Sg → Option (Int32 × Sg)) (hw : lWl Λ ≠ 36) (hv : v ≤ 1) (hl : l + 1 < 9) (hn : l + (m + 1) = n) (hn5 : n ≤ 5) (ho : own ≤ l) (hd : sD s + m + 1 < 2 ^ 28) (ht : sD s % 2 = v) (hlo : lostI Λ s = 0) (hN : smF Λ v m s = none)
    (hrc : ∀ s' own' σ, own' ≤ l + 1 → sD s' + m < 2 ^ 28 → (m = 0 ∨ smF Λ v (m - 1) s' = none) → CC σ (pm 94 (l + 1)) Λ s' → ∃ σ', rc (nI (l + 1)) (nI n) (nI v) (nI own') σ = some (sI (smF Λ v m s'), σ') ∧ Fr (FS (l + 1)) σ σ' ∧ (∀ r, smF Λ v m s' = some r → PF v own' (sD s') m r σ')) :
    ∀ (k d j : Nat) (σ : Sg), d + k = 10 * lNb Λ → k < j → CC σ (pm 94 l) Λ s → ∃ σ', J_X0_comesToWell_b120 rc j (nI l) (nI n) (nI v) (nI own) (pm 94 l) (nI (staN Λ s v)) (if m = 0 then 1 else 0) (nI d) σ = some (sI (smL Λ v (smF Λ v m) s (100 - d) d), σ') ∧ Fr (FS l) σ σ' ∧ (∀ r, smL Λ v (smF Λ v m) s (100 - d) d = some r → PF v own (sD s) (m + 1) r σ') := by
  have p1 := pm94 (show l < 9 by omega)
  have ll : lnd (pm 94 l) = 1 := lnd94 (by omega)
  have sta9 : ∀ s', staN Λ s' v ≤ 9 := fun s' => staN_le
  intro k
  induction k with
  | zero =>
    intro d j σ hi hj h
    obtain ⟨j, rfl⟩ : ∃ i, j = i + 1 := ⟨j - 1, by omega⟩
    have h8 := h.nb8
    have q3 : σ 1 3 = nI (lNb Λ) := by rw [← ll]; exact h.nb
    have e9 : smL Λ v (smF Λ v m) s (100 - d) d = smL Λ v (smF Λ v m) s 1 99 := by
      rw [show 100 - d = (99 - d) + 1 by omega]
      exact smL_off (99 - d) d (by omega) (by omega)
    rw [J_X0_comesToWell_b120, q3, show (10 : Int32) * nI (lNb Λ) = nI (10 * lNb Λ) from by rw [li_10, nI_mul], if_pos ((nI_leI (by omega) (by omega)).mpr (by omega)), e9]
    unfold J_X0_comesToWell_b250
    by_cases m0 : m = 0
    · rw [if_pos m0, if_neg n10]
      have no : smL Λ v (smF Λ v m) s 1 99 = none := by
        refine (smL_miss (k := 0) fun _ _ => ?_).trans rfl
        rw [m0] at hN ⊢
        rw [smF] at hN ⊢
        have w : watN Λ s v = false := by
          cases q : watN Λ s v
          · rfl
          · rw [q, if_pos rfl] at hN; exact absurd hN (by simp)
        rw [show livS Λ s 99 = passS Λ s from rfl, wat_rest h8 hw w, if_neg (by decide)]
      rw [no]
      exact ⟨σ, rfl, Fr.rf, fun r z => absurd z (by simp)⟩
    · rw [if_neg m0, if_pos z00]
      obtain ⟨σ1, r1, r2, r3⟩ := jc_rest hl h (by omega)
      have f1 : Fr (FS l) σ σ1 := r3.mono fun a z => FS.nx hl z
      rw [r1, bd2_s, jc_staying r2 hv, bd1_s]
      by_cases e : staN Λ (livS Λ s 99) v = staN Λ s v
      · rw [if_pos (by rw [e]), show nI l + (1 : Int32) = nI (l + 1) from by rw [li_1, nI_add], show nI own + (1 : Int32) = nI (own + 1) from by rw [li_1, nI_add]]
        obtain ⟨σ2, t1, t2, t3⟩ := hrc (livS Λ s 99) (own + 1) σ1 (by omega) (by rw [livS_D]; omega) (smF_child hlo hN (Or.inl rfl) (by decide) (Or.inr rfl) e) r2
        have f2 : Fr (FS l) σ σ2 := f1.tr (t2.mono fun a z => FS.dn hl z)
        rw [t1, bd2_s]
        cases q : smF Λ v m (livS Λ s 99) with
        | none =>
          have no : smL Λ v (smF Λ v m) s 1 99 = none := (smL_miss (k := 0) fun _ _ => q).trans rfl
          rw [no, if_pos (show sI none = 0 from rfl)]
          exact ⟨σ2, rfl, f2, fun r z => absurd z (by simp)⟩
        | some r =>
          have hit := smL_hit (k := 0) (Or.inl rfl) e q
          rw [hit, if_neg (show ¬ sI (some r) = 0 from (by decide : ¬ (1 : Int32) = 0)), show (99 : Int32) = nI 99 from rfl, jc_note (by omega), bd2_s]
          refine ⟨_, rfl, f2.tr (Fr.up (P := FS l) Fr.rf (Or.inr (Or.inl rfl))), fun r' z => ?_⟩
          rw [← Option.some.inj z]
          have pf := t3 r q
          rw [livS_D] at pf
          exact pf.own ht
      · have no : smL Λ v (smF Λ v m) s 1 99 = none := (smL_miss (k := 0) fun _ z => absurd z e).trans rfl
        have s1 := sta9 s
        have s2 := sta9 (livS Λ s 99)
        rw [no, if_neg (fun z => e ((nI_inj (by omega) (by omega)).mp z))]
        exact ⟨σ1, rfl, f1, fun r z => absurd z (by simp)⟩
  | succ k ih =>
    intro d j σ hi hj h
    obtain ⟨j, rfl⟩ : ∃ i, j = i + 1 := ⟨j - 1, by omega⟩
    have h8 := h.nb8
    have h36 := h.sq36
    have q3 : σ 1 3 = nI (lNb Λ) := by rw [← ll]; exact h.nb
    have q4 : σ 1 4 = plI (lWl Λ) := by rw [← ll]; exact h.1.2.2.2.1
    have a1 : nI d + (1 : Int32) = nI (d + 1) := by rw [li_1, nI_add]
    have dl := drvN_le h.2.2.1 h.2.2.2 (b := d / 10) (way := d % 10)
    have e100 : 100 - d = (100 - (d + 1)) + 1 := by omega
    rw [J_X0_comesToWell_b120, q3, show (10 : Int32) * nI (lNb Λ) = nI (10 * lNb Λ) from by rw [li_10, nI_mul], if_neg (fun z => by have := (nI_leI (by omega) (by omega)).mp z; omega), if_neg (show ¬ (99 : Int32) ≤ nI d from by rw [li_99, nI_leI (by omega) (by omega)]; omega), show nI d / (10 : Int32) = nI (d / 10) from by rw [li_10, nI_div (by omega) (by omega)], show rmI (nI d) (10 : Int32) = nI (d % 10) from by rw [li_10, rmI_nI (by omega) (by omega)], jc_driven h (by omega) (by omega) (by omega), bd1_s, a1, e100]
    have skip : ((d = 99 ∨ drvN Λ s (d / 10) (d % 10) ≠ 36) → staN Λ (livS Λ s d) v = staN Λ s v → smF Λ v m (livS Λ s d) = none) → ∀ σ1, CC σ1 (pm 94 l) Λ s → Fr (FS l) σ σ1 → ∃ σ', J_X0_comesToWell_b120 rc j (nI l) (nI n) (nI v) (nI own) (pm 94 l) (nI (staN Λ s v)) (if m = 0 then 1 else 0) (nI (d + 1)) σ1 = some (sI (smL Λ v (smF Λ v m) s (100 - (d + 1) + 1) d), σ') ∧ Fr (FS l) σ σ' ∧ (∀ r, smL Λ v (smF Λ v m) s (100 - (d + 1) + 1) d = some r → PF v own (sD s) (m + 1) r σ') := by
      intro hm σ1 h1 f1
      rw [smL_miss hm]
      obtain ⟨σ2, t1, t2, t3⟩ := ih (d + 1) j σ1 (by omega) (by omega) h1
      exact ⟨σ2, t1, f1.tr t2, t3⟩
    by_cases e1 : drvN Λ s (d / 10) (d % 10) = 36
    · rw [if_pos ((plI_lt _ dl).mpr e1)]
      exact skip (fun z => absurd (by rcases z with z | z; omega; exact z) (not_not_intro e1)) σ h Fr.rf
    · rw [if_neg (fun z => e1 ((plI_lt _ dl).mp z))]
      have b200 : ∃ σ', J_X0_comesToWell_b200 rc (fun x1 x2 x3 x4 x5 x6 x7 x8 σ => J_X0_comesToWell_b120 rc j x1 x2 x3 x4 x5 x6 x7 x8 σ) (nI l) (nI n) (nI v) (nI own) (pm 94 l) (nI (staN Λ s v)) (if m = 0 then 1 else 0) (nI d) (nI (d / 10)) (plI (drvN Λ s (d / 10) (d % 10))) σ = some (sI (smL Λ v (smF Λ v m) s (100 - (d + 1) + 1) d), σ') ∧ Fr (FS l) σ σ' ∧ (∀ r, smL Λ v (smF Λ v m) s (100 - (d + 1) + 1) d = some r → PF v own (sD s) (m + 1) r σ') := by
        have g := jc_passL hl h (by omega) (d := d) (Or.inr e1) (by omega)
        rw [if_neg (show ¬ d = 99 by omega), if_neg (show ¬ d = 99 by omega)] at g
        obtain ⟨σ1, r1, r2, r3⟩ := g
        have f1 : Fr (FS l) σ σ1 := r3.mono fun a z => FS.nx hl z
        unfold J_X0_comesToWell_b200
        rw [plI_of e1, r1, bd2_s, jc_staying r2 hv, bd1_s, a1]
        by_cases e : staN Λ (livS Λ s d) v = staN Λ s v
        · rw [if_pos (by rw [e]), show nI l + (1 : Int32) = nI (l + 1) from by rw [li_1, nI_add], show nI own + (1 : Int32) = nI (own + 1) from by rw [li_1, nI_add]]
          obtain ⟨σ2, t1, t2, t3⟩ := hrc (livS Λ s d) (own + 1) σ1 (by omega) (by rw [livS_D]; omega) (smF_child hlo hN (Or.inr e1) (by omega) (Or.inl ht) e) r2
          have f2 : Fr (FS l) σ σ2 := f1.tr (t2.mono fun a z => FS.dn hl z)
          rw [t1, bd2_s]
          cases q : smF Λ v m (livS Λ s d) with
          | none =>
            rw [if_pos (show sI none = 0 from rfl)]
            exact skip (fun _ _ => q) σ2 (h.fs (by omega) f2) f2
          | some r =>
            rw [smL_hit (Or.inr e1) e q, if_neg (show ¬ sI (some r) = 0 from (by decide : ¬ (1 : Int32) = 0)), jc_note (by omega), bd2_s]
            refine ⟨_, rfl, f2.tr (Fr.up (P := FS l) Fr.rf (Or.inr (Or.inl rfl))), fun r' z => ?_⟩
            rw [← Option.some.inj z]
            have pf := t3 r q
            rw [livS_D] at pf
            exact pf.own ht
        · have s1 := sta9 s
          have s2 := sta9 (livS Λ s d)
          rw [if_neg (fun z => e ((nI_inj (by omega) (by omega)).mp z))]
          exact skip (fun _ z => absurd z e) σ1 (h.fs (by omega) f1) f1
      by_cases m0 : m = 0
      · have w : watN Λ s v = false := by
          rw [m0, smF] at hN
          cases q : watN Λ s v
          · rfl
          · rw [q, if_pos rfl] at hN; exact absurd hN (by simp)
        have miss : ¬ (drvN Λ s (d / 10) (d % 10) = lWl Λ ∧ kdN Λ s (d / 10) = 0) → ((d = 99 ∨ drvN Λ s (d / 10) (d % 10) ≠ 36) → staN Λ (livS Λ s d) v = staN Λ s v → smF Λ v m (livS Λ s d) = none) := by
          intro hno _ _
          rw [m0, smF, wat_drive h8 hw w (by omega) e1 hno, if_neg (by decide)]
        have w36 : lWl Λ < 36 := by rcases h.2.2.1.2.2.2.2.2.1 with z | z; exact absurd z hw; omega
        have hb := (drvN_ok h.2.2.1 h.2.2.2 e1).1
        rw [if_pos m0] at b200 skip ⊢
        rw [if_neg n10, q4, plI_of hw]
        by_cases e2 : drvN Λ s (d / 10) (d % 10) = lWl Λ
        · have k3 := kdN_le (s := s) h.2.2.1 hb
          rw [if_pos ((plI_eq dl w36).mpr e2), jc_kindOf h hb, bd1_s]
          by_cases e3 : kdN Λ s (d / 10) = 0
          · rw [if_pos (neq li_0 e3)]
            exact b200
          · rw [if_neg (nne li_0 (by omega) (by omega) e3)]
            exact skip (miss fun z => e3 z.2) σ h Fr.rf
        · rw [if_neg (fun z => e2 ((plI_eq dl w36).mp z))]
          exact skip (miss fun z => e2 z.1) σ h Fr.rf
      · rw [if_neg m0] at b200 ⊢
        rw [if_pos z00]
        exact b200
theorem jc_sm {n v : Nat} (hn5 : n ≤ 5) (hw : lWl Λ ≠ 36) (hv : v ≤ 1) : ∀ (m l j : Nat) (s : ST) (own : Nat) (σ : Sg), l + m = n → m < j → own ≤ l → sD s + m < 2 ^ 28 → (m = 0 ∨ smF Λ v (m - 1) s = none) → CC σ (pm 94 l) Λ s → ∃ σ', J_X0_comesToWell j (nI l) (nI n) (nI v) (nI own) σ = some (sI (smF Λ v m s), σ') ∧ Fr (FS l) σ σ' ∧ (∀ r, smF Λ v m s = some r → PF v own (sD s) m r σ') := by
  intro m
  induction m with
  | zero =>
    intro l j s own σ hi hj ho hd hN h
    obtain ⟨j, rfl⟩ : ∃ i, j = i + 1 := ⟨j - 1, by omega⟩
    have f1 : Fr (FS l) σ (up σ 92 3 (nI own)) := Fr.up (P := FS l) Fr.rf (Or.inl rfl)
    have h1 := h.fs (show l < 9 by omega) f1
    refine ⟨up σ 92 3 (nI own), ?_, f1, fun r z => ⟨?_, fun i hi => by omega⟩⟩
    · rw [J_X0_comesToWell]
      show J_X0_comesToWell_body (J_X0_comesToWell j) (nI l) (nI n) (nI v) (nI own) σ = _
      unfold J_X0_comesToWell_body
      rw [j4_get (show l < pln 94 from (show l < 9 by omega)) (by decide), bd1_s, if_pos ((nI_leI (by omega) (by omega)).mpr (by omega)), jc_ramOnWell h1 hw hv, bd1_s, smF]
      cases watN Λ s v
      · rfl
      · rfl
    · rw [up_s]
      congr 1
      unfold ofD
      split <;> omega
  | succ m ih =>
    intro l j s own σ hi hj ho hd hN h
    obtain ⟨j, rfl⟩ : ∃ i, j = i + 1 := ⟨j - 1, by omega⟩
    have hN' : smF Λ v m s = none := by rcases hN with z | z; omega; exact z
    have h8 := h.nb8
    have m2 : sD s % 2 < 2 := Nat.mod_lt _ (by decide)
    rw [J_X0_comesToWell]
    show ∃ σ', J_X0_comesToWell_body (J_X0_comesToWell j) (nI l) (nI n) (nI v) (nI own) σ = _ ∧ _
    unfold J_X0_comesToWell_body
    rw [j4_get (show l < pln 94 from (show l < 9 by omega)) (by decide), bd1_s, if_neg (fun z => by have := (nI_leI (by omega) (by omega)).mp z; omega), if_pos (show nI l < (5 : Int32) from by rw [li_5, nI_ltI (by omega) (by omega)]; omega), jc_lost h, bd1_s]
    by_cases e : lostI Λ s = 0
    · rw [if_pos e, jc_staying h hv, bd1_s, show nI n - (1 : Int32) = nI (n - 1) from by rw [li_1, nI_subI (by omega)]]
      have b63 : ∃ σ', J_X0_comesToWell_b63 (J_X0_comesToWell j) (nI l) (nI n) (nI v) (nI own) (pm 94 l) (nI (staN Λ s v)) (if m = 0 then 1 else 0) σ = some (sI (smF Λ v (m + 1) s), σ') ∧ Fr (FS l) σ σ' ∧ (∀ r, smF Λ v (m + 1) s = some r → PF v own (sD s) (m + 1) r σ') := by
        unfold J_X0_comesToWell_b63
        rw [jc_turn h (by omega), bd1_s, smF, if_pos e]
        by_cases et : sD s % 2 = v
        · rw [if_pos (by rw [et]), if_pos et]
          exact jc_sm120 (J_X0_comesToWell j) hw hv (show l + 1 < 9 by omega) (by omega) hn5 ho (by omega) et e hN' (fun s' own' σ z1 z2 z3 z4 => ih (l + 1) j s' own' σ (by omega) (by omega) z1 z2 z3 z4) (10 * lNb Λ) 0 FU σ (by omega) (by rw [FU_eq]; omega) h
        · rw [if_neg (fun z => et ((nI_inj (by omega) (by omega)).mp z)), if_neg et]
          by_cases m0 : m = 0
          · rw [if_pos m0, if_neg n10]
            have no : smL Λ v (smF Λ v m) s 1 99 = none := by
              refine (smL_miss (k := 0) fun _ _ => ?_).trans rfl
              rw [m0] at hN' ⊢
              rw [smF] at hN' ⊢
              have w : watN Λ s v = false := by
                cases q : watN Λ s v
                · rfl
                · rw [q, if_pos rfl] at hN'; exact absurd hN' (by simp)
              rw [show livS Λ s 99 = passS Λ s from rfl, wat_rest h8 hw w, if_neg (by decide)]
            rw [no]
            exact ⟨σ, rfl, Fr.rf, fun r z => absurd z (by simp)⟩
          · rw [if_neg m0, if_pos z00]
            obtain ⟨σ1, r1, r2, r3⟩ := jc_rest (show l + 1 < 9 by omega) h (by omega)
            have f1 : Fr (FS l) σ σ1 := r3.mono fun a z => FS.nx (by omega) z
            rw [r1, bd2_s, jc_staying r2 hv, bd1_s]
            by_cases es : staN Λ (livS Λ s 99) v = staN Λ s v
            · rw [if_pos (by rw [es]), show nI l + (1 : Int32) = nI (l + 1) from by rw [li_1, nI_add]]
              obtain ⟨σ2, t1, t2, t3⟩ := ih (l + 1) j (livS Λ s 99) own σ1 (by omega) (by omega) (by omega) (by rw [livS_D]; omega) (smF_child e hN' (Or.inl rfl) (by decide) (Or.inr rfl) es) r2
              have f2 : Fr (FS l) σ σ2 := f1.tr (t2.mono fun a z => FS.dn (by omega) z)
              rw [t1, bd2_s]
              cases q : smF Λ v m (livS Λ s 99) with
              | none =>
                have no : smL Λ v (smF Λ v m) s 1 99 = none := (smL_miss (k := 0) fun _ _ => q).trans rfl
                rw [no, if_pos (show sI none = 0 from rfl)]
                exact ⟨σ2, rfl, f2, fun r z => absurd z (by simp)⟩
              | some r =>
                rw [smL_hit (k := 0) (Or.inl rfl) es q, if_neg (show ¬ sI (some r) = 0 from (by decide : ¬ (1 : Int32) = 0))]
                refine ⟨σ2, rfl, f2, fun r' z => ?_⟩
                rw [← Option.some.inj z]
                have pf := t3 r q
                rw [livS_D] at pf
                exact pf.oth et hv
            · have no : smL Λ v (smF Λ v m) s 1 99 = none := (smL_miss (k := 0) fun _ z => absurd z es).trans rfl
              have s1 := staN_le (Λ := Λ) (s := s) (v := v)
              have s2 := staN_le (Λ := Λ) (s := livS Λ s 99) (v := v)
              rw [no, if_neg (fun z => es ((nI_inj (by omega) (by omega)).mp z))]
              exact ⟨σ1, rfl, f1, fun r z => absurd z (by simp)⟩
      by_cases m0 : m = 0
      · rw [if_pos (show nI l = nI (n - 1) from by congr 1; omega)]
        rw [if_pos m0] at b63
        exact b63
      · rw [if_neg (fun z => by have := (nI_inj (by omega) (by omega)).mp z; omega)]
        rw [if_neg m0] at b63
        exact b63
    · have no : smF Λ v (m + 1) s = none := by rw [smF, if_neg e]
      rw [if_neg e, no]
      exact ⟨σ, rfl, Fr.rf, fun r z => absurd z (by simp)⟩
end SUMMER2
