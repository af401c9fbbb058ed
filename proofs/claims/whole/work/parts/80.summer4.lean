/-! call: summer -/
def dayF (Λ : LT) (v : Nat) (s : ST) : Nat → Nat → Option (Nat × List Nat)
  | 0, _ => none
  | k + 1, n => match smF Λ v n s with
    | some r => some (n, r)
    | none => dayF Λ v s k (n + 1)
def ansS (v D : Nat) (a : Int32) (p : Nat × List Nat) : Int32 := if a = -1 then nI p.1 else if a ≤ 2 then (if p.1 ≤ 2 * a.toNatClampNeg + ofD v D then -4 else nI (p.2.getD (2 * a.toNatClampNeg + ofD v D) 0)) else -4
def Ws (a j : Nat) : Prop := a = 157 ∨ (a = 141 ∧ j = 32) ∨ a = 162 ∨ a = 163 ∨ a = 164
section SUMMER4
variable {σ : Sg} {D : Nat} {Λ : LT} {s : ST}
theorem jm_smNode {n v : Nat} (hn : n ≤ 5) (hv : v ≤ 1) (hw : lWl Λ ≠ 36) (hΛ : LOK Λ) : ∀ (m L : Nat) (s : ST) (k : Nat) (σ : Sg), L + m = n → SOK Λ s → sD s + m < 2 ^ 27 → gmC m ≤ k → LM σ Λ → MM σ 162 (54 * L) Λ s → σ 163 L = -1 →
      (∀ r, smF Λ v m s = some r → ∃ σ', J_X8_isSummer_b24 k (nI v) (nI n) (nI L) σ = some (1, σ') ∧ Fs (GL L) σ σ' ∧ ∀ i, i < m → σ' 163 (L + i) = nI (r.getD i 0))
      ∧ (smF Λ v m s = none → ∃ k' σ', k ≤ k' + gmC m ∧ J_X8_isSummer_b24 k (nI v) (nI n) (nI L) σ = J_X8_isSummer_b24 k' (nI v) (nI n) (nI L + (-1)) σ' ∧ Fs (GL L) σ σ') := by
  intro m
  induction m with
  | zero =>
    intro L s k σ hL hs hd hk hLM hM ht
    obtain ⟨k, rfl⟩ : ∃ i, k = i + 1 := ⟨k - 1, by unfold gmC at hk; omega⟩
    obtain ⟨σ1, r1, r2, r3⟩ := jm_copyRow (A := 157) (B := 162) (o1 := 0) (o2 := 54 * L) (by decide) (by decide) hΛ hM (by decide) (show 54 * L + 54 ≤ 324 by omega) (by decide) (by omega)
    have f1 : Fs Wt σ σ1 := r3.mono fun a j z => Or.inl z.1
    have h1 : MS σ1 Λ s := ⟨hLM.wt f1, r2, hΛ, hs⟩
    have eL : nI L = nI n := by congr 1
    rw [J_X8_isSummer_b24, if_neg (nI_nlt0 (by omega)), show (54 : Int32) * nI L = nI (54 * L) from by rw [li_54, nI_mul], show J_X8_copies 157 0 162 (nI (54 * L)) 54 σ = _ from r1, bd2_s, if_pos eL, jm_isWatered h1 hv hw, bd1_s, smF]
    cases q : watN Λ s v with
    | true =>
      rw [if_pos (show true = true from rfl), if_neg (show ¬ bI true = 0 from by decide)]
      exact ⟨fun r z => ⟨σ1, rfl, f1.mono fun _ _ z => Or.inl z, fun i hi => absurd hi (by omega)⟩, fun z => absurd z (by simp)⟩
    | false =>
      rw [if_neg (show ¬ false = true by decide), if_pos (show bI false = 0 from rfl), if_pos eL]
      refine ⟨fun r z => absurd z (by simp), fun _ => ⟨k, σ1, by unfold gmC; omega, ?_, f1.mono fun _ _ z => Or.inl z⟩⟩
      unfold J_X8_isSummer_b78 J_X8_isSummer_b128
      rw [if_neg n10, if_pos (show (100 : Int32) = 100 from rfl)]
  | succ m ih =>
    intro L s k σ hL hs hd hk hLM hM ht
    by_cases e : lostI Λ s = 0
    · have eT : smF Λ v (m + 1) s = smT Λ v m s 0 := by
        rw [smF, if_pos e]
        unfold smT
        by_cases q : sD s % 2 = v
        · rw [if_pos q, if_pos q]
        · rw [if_neg q, if_neg q, if_pos (by decide)]
      rw [eT]
      exact jm_smLoop hn (by omega) hv hΛ hs e (by omega) (fun s' k σ z1 z2 z3 z4 z5 z6 => ih (L + 1) s' k σ (by omega) z1 z2 z3 z4 z5 z6) 100 0 k σ rfl hk hLM hM (by rw [ht]; decide)
    · obtain ⟨k, rfl⟩ : ∃ i, k = i + 1 := ⟨k - 1, by unfold gmC at hk; omega⟩
      obtain ⟨σ1, r1, r2, r3⟩ := jm_copyRow (A := 157) (B := 162) (o1 := 0) (o2 := 54 * L) (by decide) (by decide) hΛ hM (by decide) (show 54 * L + 54 ≤ 324 by omega) (by decide) (by omega)
      have f1 : Fs Wt σ σ1 := r3.mono fun a j z => Or.inl z.1
      have h1 : MS σ1 Λ s := ⟨hLM.wt f1, r2, hΛ, hs⟩
      have nLn : ¬ nI L = nI n := fun z => by have := (nI_inj (by omega) (by omega)).mp z; omega
      rw [J_X8_isSummer_b24, if_neg (nI_nlt0 (by omega)), show (54 : Int32) * nI L = nI (54 * L) from by rw [li_54, nI_mul], show J_X8_copies 157 0 162 (nI (54 * L)) 54 σ = _ from r1, bd2_s, if_neg nLn, if_neg nLn, jm_lost h1, bd1_s, if_neg e, smF, if_neg e]
      refine ⟨fun r z => absurd z (by simp), fun _ => ⟨k, σ1, by unfold gmC; omega, ?_, f1.mono fun _ _ z => Or.inl z⟩⟩
      unfold J_X8_isSummer_b78 J_X8_isSummer_b128
      rw [if_neg n10, if_pos (show (100 : Int32) = 100 from rfl)]
theorem GL.ws {L a j : Nat} (h : GL L a j) : Ws a j := by
  rcases h.no with w | w | w | w | w
  · exact Or.inl w
  · exact Or.inr (Or.inl w)
  · exact Or.inr (Or.inr (Or.inl w.1))
  · exact Or.inr (Or.inr (Or.inr (Or.inl w.1)))
  · exact Or.inr (Or.inr (Or.inr (Or.inr w.1)))
theorem Ws.no {a j : Nat} (h : Ws a j) : a = 157 ∨ (a = 141 ∧ j = 32) ∨ a = 162 ∨ a = 163 ∨ a = 164 := h
theorem Ws.wk {a j : Nat} (h : Ws a j) : Wk a j := by
  rcases h.no with w | w | w | w | w
  · exact Or.inr (Or.inr (Or.inl (by omega)))
  · exact Or.inr (Or.inr (Or.inr (Or.inl ⟨w.1, by omega⟩)))
  · exact Or.inr (Or.inr (Or.inl (by omega)))
  · exact Or.inr (Or.inr (Or.inl (by omega)))
  · exact Or.inr (Or.inr (Or.inl (by omega)))
theorem jm_isSummer {n v : Nat} (hn : n ≤ 5) (hv : v ≤ 1) (hw : lWl Λ ≠ 36) (hΛ : LOK Λ) (hs : SOK Λ s) (hd : sD s < 2 ^ 26) (hL : LM σ Λ) (hM : MM σ 146 0 Λ s) : ∃ σ', J_X8_isSummer (nI v) (nI n) σ = some (sI (smF Λ v n s), σ') ∧ Fs Ws σ σ' ∧ ∀ r, smF Λ v n s = some r → ∀ i, i < n → σ' 163 i = nI (r.getD i 0) := by
  obtain ⟨σ1, r1, r2, r3⟩ := jm_copyRow (A := 162) (B := 146) (o1 := 0) (o2 := 0) (by decide) (by decide) hΛ hM (by decide) (by decide) (by decide) (by decide)
  have cost : gmC n + 1 ≤ FU := by
    rcases (show n = 0 ∨ n = 1 ∨ n = 2 ∨ n = 3 ∨ n = 4 ∨ n = 5 by omega) with z | z | z | z | z | z <;> rw [z] <;> decide
  obtain ⟨c1, c2⟩ := jm_smNode hn hv hw hΛ n 0 s FU (up σ1 163 0 (-1)) (by omega) hs (by omega) (by omega) ((hL.frs r3 fun a j z1 z2 z3 w => by have := w.1; omega).up (by decide)) (r2.upo (by decide)) up_s
  have f1 : Fs Ws σ (up σ1 163 0 (-1)) := Fs.up (P := Ws) (r3.mono fun a j z => Or.inr (Or.inr (Or.inl z.1))) (Or.inr (Or.inr (Or.inr (Or.inl rfl))))
  unfold J_X8_isSummer
  rw [show J_X8_copies 162 0 146 0 54 σ = _ from r1, bd2_s]
  cases q : smF Λ v n s with
  | some r =>
    obtain ⟨σ2, o1, o2, o3⟩ := c1 r q
    refine ⟨σ2, o1, f1.tr (o2.mono fun _ _ z => z.ws), fun r' z i hi => ?_⟩
    rw [← Option.some.inj z]
    have := o3 i hi
    rw [Nat.zero_add] at this
    exact this
  | none =>
    obtain ⟨k', σ2, o1, o2, o3⟩ := c2 q
    obtain ⟨k', rfl⟩ : ∃ i, k' = i + 1 := ⟨k' - 1, by omega⟩
    refine ⟨σ2, ?_, f1.tr (o3.mono fun _ _ z => z.ws), fun r' z => absurd z (by simp)⟩
    rw [show J_X8_isSummer_b24 FU (nI v) (nI n) 0 (up σ1 163 0 (-1)) = _ from o2, J_X8_isSummer_b24, if_pos (show nI 0 + (-1 : Int32) < 0 from by decide)]
    rfl
theorem gt5 {i : Nat} (h : i < 1000) : ((5 : Int32) < nI i) ↔ 5 < i := by rw [li_5]; exact nI_ltI (by omega) (by omega)
theorem jc_sm14 {v : Nat} (hv : v ≤ 1) (hw : lWl Λ ≠ 36) (hd : sD s < 2 ^ 26) : ∀ (k n j : Nat) (σ : Sg), n + k = 6 → k < j → (n = 0 ∨ smF Λ v (n - 1) s = none) → CC σ 95 Λ s → ∃ σ', J_X0_daysToWell_b14 j (nI v) (nI n) σ = some (match dayF Λ v s k n with
    | some p => nI p.1
    | none => -4, σ') ∧ Fr (FS 0) σ σ' ∧ (∀ p, dayF Λ v s k n = some p → p.1 ≤ 5 ∧ PF v 0 (sD s) p.1 p.2 σ') := by
  intro k
  induction k with
  | zero =>
    intro n j σ hi hj hN h
    obtain ⟨j, rfl⟩ : ∃ i, j = i + 1 := ⟨j - 1, by omega⟩
    refine ⟨σ, ?_, Fr.rf, fun p z => absurd z (by simp [dayF])⟩
    rw [J_X0_daysToWell_b14, if_pos ((gt5 (by omega)).mpr (by omega))]
    rfl
  | succ k ih =>
    intro n j σ hi hj hN h
    obtain ⟨j, rfl⟩ : ∃ i, j = i + 1 := ⟨j - 1, by omega⟩
    obtain ⟨σ1, r1, r2, r3⟩ := jc_sm (n := n) (v := v) (by omega) hw hv n 0 FR s 0 σ (by omega) (show n < 12 by omega) (Nat.le_refl _) (by omega) hN h
    rw [J_X0_daysToWell_b14, if_neg (fun z => by have := (gt5 (by omega)).mp z; omega), show J_X0_comesToWell FR 0 (nI n) (nI v) 0 σ = _ from r1, bd2_s, dayF]
    cases q : smF Λ v n s with
    | some r =>
      rw [if_neg (show ¬ sI (some r) = 0 from (by decide : ¬ (1 : Int32) = 0))]
      refine ⟨σ1, rfl, r2, fun p z => ?_⟩
      rw [← Option.some.inj z]
      exact ⟨by show n ≤ 5; omega, r3 r q⟩
    | none =>
      rw [if_pos (show sI none = 0 from rfl), show nI n + (1 : Int32) = nI (n + 1) from by rw [li_1, nI_add]]
      obtain ⟨σ2, t1, t2, t3⟩ := ih (n + 1) j σ1 (by omega) (by omega) (Or.inr q) (CC.fs (l := 0) (by decide) h r2)
      exact ⟨σ2, t1, r2.tr t2, t3⟩
theorem jm_sm72 {v n : Nat} {r : List Nat} (hn : n ≤ 5) {a : Int32} (ha : -1 ≤ a) (hr : ∀ i, i < n → σ 163 i = nI (r.getD i 0)) : (a ≤ 2 → J_X8_summer_b72 a (nI n) ((2 : Int32) * a + nI (ofD v D)) σ = some (ansS v D a (n, r), σ)) ∧ (¬ a ≤ 2 → J_X8_summer_b72 a (nI n) (nI n) σ = some (ansS v D a (n, r), σ)) := by
  have o1 : ofD v D ≤ 1 := by unfold ofD; split <;> omega
  refine ⟨fun h => ?_, fun h => ?_⟩
  · unfold J_X8_summer_b72 ansS
    rcases i_cases a (show 3 < 2 ^ 31 by decide) with ⟨k, hk, rfl⟩ | z | z
    · rw [if_pos (nI_ge0 (by omega)), if_neg (show ¬ nI k = -1 from fun z => nI_nlt0 (a := k) (by omega) (by rw [z]; decide)), if_pos h, nI_clamp (by omega), show (2 : Int32) * nI k + nI (ofD v D) = nI (2 * k + ofD v D) from by rw [li_2, nI_mul, nI_add]]
      by_cases e : n ≤ 2 * k + ofD v D
      · rw [if_pos ((nI_leI (by omega) (by omega)).mpr e), if_pos e]
      · rw [if_neg (fun z => e ((nI_leI (by omega) (by omega)).mp z)), if_pos ((inb_nI (by omega)).mpr (by omega)), nI_clamp (by omega), hr _ (by omega), if_neg e]
    · have a1 : a = -1 := by
        have h1 := Int32.lt_iff_toInt_lt.mp z
        have h2 := Int32.le_iff_toInt_le.mp ha
        have e0 : (0 : Int32).toInt = 0 := by decide
        have e1 : (-1 : Int32).toInt = -1 := by decide
        rw [e0] at h1
        rw [e1] at h2
        apply Int32.toInt_inj.mp
        rw [e1]
        omega
      rw [a1, if_neg (by decide), if_pos rfl]
    · exact absurd h (Int32.not_le.mpr (ge_lt (m := 2) (n := 3) (by decide) (by decide) z))
  · unfold J_X8_summer_b72 ansS
    have n1 : ¬ a = -1 := fun z => h (by rw [z]; decide)
    have n0 : (0 : Int32) ≤ a := by
      have := Int32.not_le.mp h
      exact Int32.le_of_lt (Int32.lt_trans (by decide) this)
    rw [if_pos n0, if_pos (Int32.le_refl _), if_neg n1, if_neg h]
theorem jm_sm28 {v : Nat} (hv : v ≤ 1) (hw : lWl Λ ≠ 36) (hΛ : LOK Λ) (hs : SOK Λ s) (hd : sD s < 2 ^ 26) {a : Int32} (ha : -1 ≤ a) : ∀ (k n j : Nat) (σ : Sg), n + k = 6 → k < j → LM σ Λ → MM σ 146 0 Λ s → ∃ σ', J_X8_summer_b28 j (nI v) a (nI n) σ = some (match dayF Λ v s k n with
    | some p => ansS v (sD s) a p
    | none => -4, σ') ∧ Fs Ws σ σ' := by
  intro k
  induction k with
  | zero =>
    intro n j σ hi hj hL hM
    obtain ⟨j, rfl⟩ : ∃ i, j = i + 1 := ⟨j - 1, by omega⟩
    refine ⟨σ, ?_, Fs.rf⟩
    rw [J_X8_summer_b28, if_pos ((gt5 (by omega)).mpr (by omega))]
    rfl
  | succ k ih =>
    intro n j σ hi hj hL hM
    obtain ⟨j, rfl⟩ : ∃ i, j = i + 1 := ⟨j - 1, by omega⟩
    obtain ⟨σ1, r1, r2, r3⟩ := jm_isSummer (n := n) (v := v) (by omega) hv hw hΛ hs hd hL hM
    have L1 := hL.frs r2 fun a j z1 z2 z3 w => by have := w.no; omega
    have M1 := hM.frs hΛ r2 fun j z1 z2 w => by have := w.no; omega
    have m2 : sD s % 2 < 2 := Nat.mod_lt _ (by decide)
    rw [J_X8_summer_b28, if_neg (fun z => by have := (gt5 (by omega)).mp z; omega), r1, bd2_s, dayF]
    cases q : smF Λ v n s with
    | some r =>
      obtain ⟨x1, x2⟩ := jm_sm72 (v := v) (n := n) (D := sD s) (r := r) (by omega) ha (r3 r q)
      rw [if_neg (show ¬ sI (some r) = 0 from (by decide : ¬ (1 : Int32) = 0)), M1.1, li_2, rmI_nI (by omega) (by omega), ← li_2]
      refine ⟨σ1, ?_, r2⟩
      by_cases e : a ≤ 2
      · rw [if_pos e]
        by_cases et : sD s % 2 = v
        · have o : ofD v (sD s) = 0 := if_pos et
          rw [if_pos (by rw [et])]
          have := x1 e
          rw [o] at this
          exact this
        · have o : ofD v (sD s) = 1 := if_neg et
          rw [if_neg (fun z => et ((nI_inj (by omega) (by omega)).mp z))]
          have := x1 e
          rw [o] at this
          exact this
      · rw [if_neg e]
        exact x2 e
    | none =>
      rw [if_pos (show sI none = 0 from rfl), show nI n + (1 : Int32) = nI (n + 1) from by rw [li_1, nI_add]]
      obtain ⟨σ2, t1, t2⟩ := ih (n + 1) j σ1 (by omega) (by omega) L1 M1
      exact ⟨σ2, t1, r2.tr t2⟩
theorem jc_onOwn {v n : Nat} {r : List Nat} (hn : n ≤ 5) (h : PF v 0 D n r σ) {a : Int32} (ha : -1 ≤ a) (hne : ¬ a = -1) : J_X0_onOwnDay a σ = some (ansS v D a (n, r)) := by
  have o1 : ofD v D ≤ 1 := by unfold ofD; split <;> omega
  unfold J_X0_onOwnDay ansS
  rw [h.1, if_neg hne, Nat.zero_add]
  rcases i_cases a (show 3 < 2 ^ 31 by decide) with ⟨k, hk, rfl⟩ | z | z
  · rw [if_neg (nI_nlt0 (by omega)), if_pos (show nI k ≤ 2 from by rw [li_2, nI_leI (by omega) (by omega)]; omega), nI_clamp (by omega)]
    by_cases e : n ≤ 2 * k + ofD v D
    · rw [if_pos ((nI_leI (by omega) (by omega)).mpr (by omega)), if_pos e]
    · have q := h.2 k (by omega)
      rw [Nat.zero_add] at q
      rw [if_neg (fun z => by have := (nI_leI (by omega) (by omega)).mp z; omega), if_neg (show ¬ (5 : Int32) ≤ nI k from by rw [li_5, nI_leI (by omega) (by omega)]; omega), if_pos ((inb_nI (by omega)).mpr (by omega)), q, if_neg e]
  · exfalso
    have h1 := Int32.lt_iff_toInt_lt.mp z
    have h2 := Int32.le_iff_toInt_le.mp ha
    have e0 : (0 : Int32).toInt = 0 := by decide
    have e1 : (-1 : Int32).toInt = -1 := by decide
    rw [e0] at h1
    rw [e1] at h2
    exact hne (Int32.toInt_inj.mp (by rw [e1]; omega))
  · have h3 : nI ((n + 1 - ofD v D) / 2) ≤ a := by
      have h2 := Int32.le_iff_toInt_le.mp z
      apply Int32.le_iff_toInt_le.mpr
      rw [nI_toInt (by decide)] at h2
      rw [nI_toInt (by omega)]
      omega
    rw [if_neg (ge_n0 (by decide) z), if_pos h3, if_neg (show ¬ a ≤ (2 : Int32) from Int32.not_le.mpr (ge_lt (m := 2) (n := 3) (by decide) (by decide) z))]
theorem cl_summer (h : Psi D σ) (hD : D < 2 ^ 20) (a b : Int32) : ∃ r σ1 σ2, J_X7_summer a b σ = some (r, σ1) ∧ J_X8_summer a b σ1 = some (r, σ2) ∧ Psi D σ2 := by
  have h0 := h
  obtain ⟨Λ, s, n, o, P, T, q, K, t, h1, h2, -, -, -⟩ := h
  have hΛ := h1.2.2
  have hd := h2.2.2.2
  have q1 := hΛ.sq
  rcases i_cases a (show 2 < 2 ^ 31 by decide) with ⟨v, hv, rfl⟩ | ha
  · have iv : J_X7_isVillage (nI v) σ = some 1 := by
      unfold J_X7_isVillage
      rcases (show v = 0 ∨ v = 1 by omega) with z | z
      · rw [z, if_pos (show nI 0 = 0 from rfl)]
      · rw [z, if_neg (show ¬ nI 1 = 0 from by decide), if_pos (show nI 1 = 1 from rfl)]
    by_cases hb : (-1 : Int32) ≤ b
    · by_cases hw : lWl Λ = 36
      · refine ⟨-2, σ, σ, ?_, ?_, h0⟩
        · unfold J_X7_summer
          rw [iv, bd1_s, if_neg n10, if_pos hb, h1.1.2.2.2.1, hw, if_pos (show plI 36 = -4 from rfl)]
        · unfold J_X8_summer
          rw [in01 (by omega), bd1_s, if_neg n10, if_pos hb, h1.2.1.2.2.2.1, hw, if_neg (show ¬ (0 : Int32) ≤ plI 36 from by decide)]
      · have w36 : lWl Λ < 36 := by rcases hΛ.2.2.2.2.2.1 with z | z; exact absurd z hw; omega
        obtain ⟨σ1, r1, r2, r3⟩ := jc_level0 h1 h2
        obtain ⟨σ2, t1, t2, t3⟩ := jc_sm14 (v := v) (by omega) hw (by omega) 6 0 FU σ1 rfl (by rw [FU_eq]; decide) (Or.inl rfl) r2
        have f2 : Fs Wk σ σ2 := (ahead_wk r3).tr (t2.fs fun a j z => by
          have z' : a = 92 ∨ a = 93 ∨ (95 + 4 < a ∧ a ≤ 140) := z
          exact Or.inr (Or.inl ⟨by omega, by omega⟩))
        have g1 := h1.fr f2
        have g2 := h2.fr hΛ f2
        obtain ⟨σ3, x1, x2⟩ := jm_sm28 (v := v) (by omega) hw hΛ h2.2.2.1 (by omega) hb 6 0 FU σ2 rfl (by rw [FU_eq]; decide) g1.2.1 g2.2.1
        have cl : ∀ r, (∃ e, dayF Λ v s 6 0 = e ∧ (match e with
            | some p => (if b = -1 then nI p.1 else ansS v (sD s) b p) = r
            | none => -4 = r)) → J_X7_summer (nI v) b σ = some (r, σ2) := by
          intro r ⟨e, he, hr⟩
          unfold J_X7_summer J_X0_daysToWell
          rw [iv, bd1_s, if_neg n10, if_pos hb, h1.1.2.2.2.1, if_neg (show ¬ plI (lWl Λ) = -4 from fun z => hw ((plI_lt _ (by omega)).mp z)), show J_X4_get 94 0 σ = some 95 from rfl, bd1_s, r1, bd2_s, show J_X0_daysToWell_b14 FU (nI v) 0 σ1 = _ from t1, bd2_s, he]
          cases e with
          | none => rw [if_pos (show (-4 : Int32) = -4 from rfl), hr]
          | some p =>
            obtain ⟨p1, p2⟩ := t3 p he
            have hr' : (if b = -1 then nI p.1 else ansS v (sD s) b p) = r := hr
            show (if nI p.1 = (-4 : Int32) then some (nI p.1, σ2) else if b = -1 then some (nI p.1, σ2) else bd1 (J_X0_onOwnDay b σ2) fun r62 => some (r62, σ2)) = some (r, σ2)
            rw [if_neg (nI_nem4 (by omega))]
            by_cases eb : b = -1
            · rw [if_pos eb] at hr' ⊢
              rw [hr']
            · rw [if_neg eb] at hr' ⊢
              rw [jc_onOwn p1 p2 hb eb, bd1_s, hr']
        have fin : ∀ r, J_X8_summer_b28 FU (nI v) b (nI 0) σ2 = some (r, σ3) → J_X8_summer (nI v) b σ2 = some (r, σ3) := by
          intro r hr
          unfold J_X8_summer
          rw [in01 (by omega), bd1_s, if_neg n10, if_pos hb, g1.2.1.2.2.2.1, plI_of hw, if_pos (nI_ge0 (by omega))]
          exact hr
        have psi := h0.fr (f2.tr (x2.mono fun _ _ z => z.wk))
        obtain ⟨e, he⟩ : ∃ e, dayF Λ v s 6 0 = e := ⟨_, rfl⟩
        rw [he] at x1
        cases e with
        | none => exact ⟨-4, σ2, σ3, cl _ ⟨none, he, rfl⟩, fin _ x1, psi⟩
        | some p =>
          refine ⟨ansS v (sD s) b p, σ2, σ3, cl _ ⟨some p, he, ?_⟩, fin _ x1, psi⟩
          show (if b = -1 then nI p.1 else ansS v (sD s) b p) = ansS v (sD s) b p
          by_cases eb : b = -1
          · unfold ansS
            rw [if_pos eb, if_pos eb]
          · rw [if_neg eb]
    · refine ⟨-1, σ, σ, ?_, ?_, h0⟩
      · unfold J_X7_summer
        rw [iv, bd1_s, if_neg n10, if_neg hb]
      · unfold J_X8_summer
        rw [in01 (by omega), bd1_s, if_neg n10, if_neg hb]
  · refine ⟨-1, σ, σ, ?_, ?_, h0⟩
    · have iv : J_X7_isVillage a σ = some 0 := by
        unfold J_X7_isVillage
        rcases ha with z | z
        · rw [if_neg (show ¬ a = 0 from lt0_ne (n := 0) (by decide) z), if_neg (show ¬ a = 1 from lt0_ne (n := 1) (by decide) z)]
        · rw [if_neg (show ¬ a = 0 from ge_ne (m := 0) (n := 2) (by decide) (by decide) z), if_neg (show ¬ a = 1 from ge_ne (m := 1) (n := 2) (by decide) (by decide) z)]
      unfold J_X7_summer
      rw [iv, bd1_s, if_pos z00]
    · unfold J_X8_summer
      rw [in01_0 ha, bd1_s, if_pos z00]
end SUMMER4
