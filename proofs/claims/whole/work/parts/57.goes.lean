/-! a day by a drive, in the model -/
def canN (Λ : LT) (s : ST) (d : Nat) : Bool := decide (lostI Λ s = 0) && decide (drvN Λ s (d / 10) (d % 10) ≠ 36)
def W32 (a j : Nat) : Prop := a = 141 ∧ j = 32
theorem W32.wt {a j : Nat} (h : W32 a j) : Wt a j := Or.inr h
section GOES
variable {σ : Sg} {Λ : LT} {s : ST}
theorem Fr.wt {σ' : Sg} (h : Fr (fun a => a = 157) σ σ') : Fs Wt σ σ' := h.fs fun _ _ z => Or.inl z
theorem jm_pass (h : MS σ Λ s) (hd : sD s < 2 ^ 28) : ∃ σ' σ'', J_X8_grazes σ = some ((), σ') ∧ J_X8_nextDay σ' = some ((), σ'') ∧ MS σ'' Λ (passS Λ s) ∧ Fs Wt σ σ'' := by
  obtain ⟨σ1, r1, r2, r3⟩ := jm_graze h
  obtain ⟨σ2, t1, t2, t3⟩ := jm_nextDay r2 (by rw [graS_D]; omega)
  exact ⟨σ1, σ2, r1, t1, t2, (r3.tr t3).wt⟩
theorem movS_P {b x : Nat} : sP (movS Λ s b x) = fun a => if a = b then x else if a = onN Λ s x then 36 else sP s a := rfl
theorem jm_goesBy (h : MS σ Λ s) (hd : sD s < 2 ^ 28) {d : Nat} (hd2 : d < 1000) (hc : d = 99 ∨ drvN Λ s (d / 10) (d % 10) ≠ 36) : ∃ σ', J_X8_goesBy (nI d) σ = some ((), σ') ∧ MS σ' Λ (livS Λ s d) ∧ Fs Wt σ σ' := by
  have h36 := h.sq36
  have h8 := h.nb8
  unfold J_X8_goesBy livS
  by_cases e : d = 99
  · rw [if_pos (neq li_99 e), if_pos e]
    obtain ⟨σ1, σ2, r1, r2, r3, r4⟩ := jm_pass h hd
    refine ⟨σ2, ?_, r3, r4⟩
    rw [r1, bd2_s, r2, bd2_s]
  · have e1 : drvN Λ s (d / 10) (d % 10) ≠ 36 := by rcases hc with z | z; exact absurd z e; exact z
    obtain ⟨q1, q2, q3, q4, q5, q6, q7, q8, q9⟩ := drvN_ok h.2.2.1 h.2.2.2 e1
    rw [if_neg (nne li_99 (by omega) (by omega) e), if_neg e, li_10, nI_div (by omega) (by omega), rmI_nI (by omega) (by omega), ← bI_t, jm_comesTo h (by omega) q1 q4 q2 true, bd2_s, up_s, if_neg e1, ← q6, plI_of e1]
    have tk : takT Λ s (d / 10) (d % 10) (mtN Λ s (d / 10) true) = onI (onN Λ s (drvN Λ s (d / 10) (d % 10))) := by
      unfold takT tkI
      rw [if_neg q5, ← q7, if_neg e1]
    rw [tk]
    have ok := movS_ok h.2.2.1 h.2.2.2 q1 q4 q8 q9
    generalize drvN Λ s (d / 10) (d % 10) = x at e1 q8 q9 ok ⊢
    generalize d / 10 = b at q1 q4 ok ⊢
    have h1 : MS (up σ 141 32 (onI (onN Λ s x))) Λ s := h.up32
    have f1 : Fs Wt σ (up σ 141 32 (onI (onN Λ s x))) := Fs.up (P := Wt) Fs.rf (Or.inr ⟨rfl, rfl⟩)
    generalize hσ1 : up σ 141 32 (onI (onN Λ s x)) = σ1 at h1 f1 ⊢
    have t32 : σ1 141 32 = onI (onN Λ s x) := by rw [← hσ1, up_s]
    have fin : ∀ (σ2 : Sg), LM σ2 Λ → MM σ2 157 0 Λ (plS s (onN Λ s x) 36) → Fs Wt σ σ2 → ∃ σ', (bd2 (J_X8_stands (nI b) (nI x) σ2) fun _ s46 => bd2 (J_X8_grazes s46) fun _ s50 => bd2 (J_X8_nextDay s50) fun _ s54 => some ((), s54)) = some ((), σ') ∧ MS σ' Λ (passS Λ (movS Λ s b x)) ∧ Fs Wt σ σ' := by
      intro σ2 hL hM f2
      obtain ⟨σ3, r1, r2, r3, r4⟩ := jm_stands (s := plS s (onN Λ s x) 36) hL hM h.2.2.1 h.2.2.2.2.2.2.2 q1 q8
      have H : MS σ3 Λ (movS Λ s b x) := ⟨r2, r3, h.2.2.1, ok⟩
      obtain ⟨σ4, σ5, t1, t2, t3, t4⟩ := jm_pass H hd
      refine ⟨σ5, ?_, t3, Fs.tr f2 (Fs.tr r4.wt t4)⟩
      rw [r1, bd2_s, t1, bd2_s, t2, bd2_s]
    rcases onN_cases (s := s) h8 x with o | o
    · rw [if_pos (show onI (onN Λ s x) < 0 from by rw [o]; decide)]
      exact fin σ1 h1.1 (MM.p8 (by omega) h1.2.1) f1
    · have oi : onI (onN Λ s x) = nI (onN Λ s x) := if_neg (by omega)
      rw [oi, if_neg (nI_nlt0 (by omega)), li_37, nI_add, if_pos ((inb_nI (by omega)).mpr (by omega)), nI_clamp (by omega)]
      exact fin _ (LM.up (by omega) h1.1) (MM.upP (v := 36) h1.2.1 h36 h8 o) (Fs.up (P := Wt) f1 (Or.inl rfl))
theorem jm_canDrive (h : MS σ Λ s) (hd : sD s < 2 ^ 28) {d : Nat} (hd2 : d < 1000) : ∃ σ', J_X8_canDrive (nI d) σ = some (bI (canN Λ s d), σ') ∧ MS σ' Λ s ∧ Fs W32 σ σ' := by
  have h36 := h.sq36
  have h8 := h.nb8
  unfold J_X8_canDrive canN drvN
  rw [li_10, nI_div (by omega) (by omega), rmI_nI (by omega) (by omega), h.nb]
  have w10 : d % 10 < 10 := Nat.mod_lt _ (by decide)
  have b100 : d / 10 < 100 := by omega
  generalize d / 10 = b at b100 ⊢
  generalize d % 10 = way at w10 ⊢
  have no : (if b < lNb Λ ∧ way < 4 ∧ lVl Λ b = sD s % 2 then reachT Λ s b way (mtN Λ s b true) else 36) = 36 → ∃ σ', some ((0 : Int32), σ) = some (bI (decide (lostI Λ s = 0) && decide ((if b < lNb Λ ∧ way < 4 ∧ lVl Λ b = sD s % 2 then reachT Λ s b way (mtN Λ s b true) else 36) ≠ 36)), σ') ∧ MS σ' Λ s ∧ Fs W32 σ σ' := by
    intro z
    rw [z]
    exact ⟨σ, by simp [bI], h, Fs.rf⟩
  by_cases e1 : lNb Λ ≤ b
  · rw [if_pos ((nI_leI (by omega) (by omega)).mpr e1)]
    exact no (if_neg (by omega))
  · rw [if_neg (fun z => e1 ((nI_leI (by omega) (by omega)).mp z))]
    by_cases e2 : 4 ≤ way
    · rw [if_pos (show (4 : Int32) ≤ nI way from by rw [li_4, nI_leI (by omega) (by omega)]; exact e2)]
      exact no (if_neg (by omega))
    · have p36 := SOK.p36 h.2.2.1 h.2.2.2 (b := b) (by omega)
      have v1 := (h.2.2.1.2.2.2.2.2.2.2.1 b (by omega)).2
      rw [if_neg (show ¬ (4 : Int32) ≤ nI way from by rw [li_4, nI_leI (by omega) (by omega)]; exact e2), li_37, nI_add, if_pos ((inb_nI (by omega)).mpr (by omega)), nI_clamp (n := 37 + b) (by omega), h.pl (by omega)]
      by_cases e3 : sP s b = 36
      · rw [if_pos (neq li_36 e3)]
        refine no ?_
        split
        · unfold reachT; rw [if_pos e3]
        · rfl
      · have q0 : σ 157 0 = nI (sD s) := h.2.1.1
        rw [if_neg (nne li_36 (by omega) (by omega) e3), if_pos ((inb_nI (by omega)).mpr (by omega)), nI_clamp (n := b) (by omega), h.vl (by omega), q0, li_2, rmI_nI (by omega) (by omega)]
        by_cases e4 : lVl Λ b = sD s % 2
        · have cc : b < lNb Λ ∧ way < 4 ∧ lVl Λ b = sD s % 2 := ⟨by omega, by omega, e4⟩
          rw [if_pos (by rw [e4]), jm_lost h, bd1_s, if_pos cc]
          by_cases e5 : lostI Λ s = 0
          · rw [if_pos e5, ← bI_t, jm_comesTo h (by omega) (by omega) e3 (by omega) true, bd2_s]
            have f : Fs W32 σ (up σ 141 32 (takT Λ s b way (mtN Λ s b true))) := Fs.up (P := W32) Fs.rf ⟨rfl, rfl⟩
            have l36 := reachT_le h.2.2.1 h.2.2.2 (b := b) (way := way) (mt := mtN Λ s b true) (by omega) (by omega)
            by_cases e6 : reachT Λ s b way (mtN Λ s b true) = 36
            · rw [if_pos ((plI_lt0 (by omega)).mpr e6)]
              exact ⟨_, by simp [bI, e6], h.up32, f⟩
            · rw [if_neg (fun z => e6 ((plI_lt0 (by omega)).mp z))]
              exact ⟨_, by simp [bI, e5, e6], h.up32, f⟩
          · rw [if_neg e5]
            exact ⟨σ, by simp [bI, e5], h, Fs.rf⟩
        · have m2 : sD s % 2 < 2 := Nat.mod_lt _ (by decide)
          rw [if_neg (fun z => e4 ((nI_inj (by omega) (by omega)).mp z))]
          exact no (if_neg (fun z => e4 z.2.2))
end GOES
