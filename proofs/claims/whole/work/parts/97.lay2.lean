/-! calls: fault, lay; both sides -/
section LAY2
variable {σ : Sg} {D : Nat} {L : Nat → Nat} {t : Nat} {r : RT}
theorem allR_lt : ∀ (k h : Nat) (r : RT) (a : Nat), (allR L t k r h).1 = some a → a < t
  | 0, h, r, a, e => by simp [allR] at e
  | k + 1, h, r, a, e => by
    unfold allR at e
    by_cases q : t ≤ h
    · rw [if_pos q] at e; simp at e
    · rw [if_neg q] at e
      cases y : itT L t r h with
      | none =>
        rw [y] at e
        have := Option.some.inj e
        omega
      | some p =>
        obtain ⟨r', h'⟩ := p
        rw [y] at e
        exact allR_lt k h' r' a e
def txL (σ : Sg) (i : Nat) : Nat := (σ 5 i).toNatClampNeg
theorem PsiT.tc (h : PsiT σ t) : TC σ (txL σ) t ∧ TM σ (txL σ) t := by
  obtain ⟨h1, h2, h3, h4⟩ := h
  have e : ∀ i, i < t → σ 5 i = nI (txL σ i) ∧ txL σ i < 1000 ∧ σ 150 i = nI (txL σ i) := by
    intro i hi
    obtain ⟨k, k1, k2, k3, k4⟩ := h4 i hi
    have : txL σ i = k := by unfold txL; rw [k3, nI_clamp (by omega)]
    rw [this]
    exact ⟨k3, by omega, k4⟩
  exact ⟨⟨h2, h1, fun i hi => ⟨(e i hi).1, (e i hi).2.1⟩⟩, ⟨h3, h1, fun i hi => ⟨(e i hi).2.2, (e i hi).2.1⟩⟩⟩
theorem Rcl.wk {a j : Nat} (h : Rcl a j) : Wk a j := by
  rcases h with z | z
  · exact Or.inr (Or.inr (Or.inr (Or.inr (Or.inr ⟨z.1, by omega⟩))))
  · exact Or.inr (Or.inr (Or.inr (Or.inr (Or.inl z))))
theorem Rml.wk {a j : Nat} (h : Rml a j) : Wk a j := by
  rcases h with z | z
  · exact Or.inr (Or.inr (Or.inr (Or.inl z)))
  · exact Or.inr (Or.inr (Or.inl z.1))
theorem TM.rc {σ' : Sg} (c : TM σ L t) (f : Fs Rcl σ σ') : TM σ' L t := by
  obtain ⟨c1, c2, c3⟩ := c
  refine ⟨?_, c2, fun i hi => ?_⟩
  · rw [f 141 17 (fun z => by have := z.no; omega)]; exact c1
  · rw [f 150 i (fun z => by have := z.no; omega)]; exact c3 i hi
theorem cl_fault (h : Psi D σ) : ∃ r σ1 σ2, J_X7_fault σ = some (r, σ1) ∧ J_X8_fault σ1 = some (r, σ2) ∧ Psi D σ2 := by
  have h0 := h
  obtain ⟨Λ, s, n, o, P, T, q, K, t, h1, h2, h3, h4, h5⟩ := h
  obtain ⟨c1, c2⟩ := h5.tc
  obtain ⟨σ1, a1, a2, a3⟩ := jc_firstFault c1
  obtain ⟨σ2, b1, b2, b3⟩ := jm_fault (c2.rc a3)
  refine ⟨_, σ1, σ2, ?_, b1, h0.fr ((a3.mono fun _ _ z => z.wk).tr (b3.mono fun _ _ z => z.wk))⟩
  unfold J_X7_fault
  rw [a1, bd2_s]
theorem RC.m9 (c : RC σ r) (ok : ROK r) : MC σ 9 (laΛ r) (laS r) ∧ LC σ 6 (laΛ r) := by
  obtain ⟨c0, c1, c2, c3, c4, c5, c6, c7, c8, c9, c10⟩ := c
  have q36 := ok.q36
  refine ⟨⟨c10, fun x hx => ?_, fun b hb => ?_, fun b hb => ?_, fun b hb => (c8 b hb).2.2.2⟩, ⟨c0, c1, c3, c4, c5, c6, fun b hb => (c8 b hb).1, fun k hk => c9 k hk⟩⟩
  · show σ 10 x = nI (if rG r x = 9 then 9 else (if rG r x = 9 then 0 else rG r x))
    rw [c7 x hx]
    by_cases e : rG r x = 9
    · rw [if_pos e, e]
    · rw [if_neg e, if_neg e]
  · have xb := (ok.2.2.2.2.1 b hb).2.2.1
    show σ 11 b = plI (rX r b)
    rw [(c8 b hb).2.1, plI_of (by omega)]
  · show σ 12 b = nI (kdN (laΛ r) (laS r) b)
    rw [(c8 b hb).2.2.1]
    congr 1
    unfold kdN
    rw [if_neg]
    · rfl
    · rintro ⟨_, z⟩
      have z' : (0 : Nat).testBit b = true := z
      simp at z'
theorem jc_landCopy : ∃ τ, J_X1_copyFrom 1 6 σ = some ((), τ) ∧ (∀ j, j ≤ 6 → τ 1 j = σ 6 j) ∧ τ 2 = σ 7 ∧ τ 3 = σ 8 ∧ Fr (fun a => 1 ≤ a ∧ a ≤ 3) σ τ := by
  refine ⟨_, rfl, fun j hj => ?_, ?_, ?_, fun a ha => ?_⟩
  · rcases (show j = 0 ∨ j = 1 ∨ j = 2 ∨ j = 3 ∨ j = 4 ∨ j = 5 ∨ j = 6 by omega) with z | z | z | z | z | z | z <;> rw [z] <;> simp [upc, up]
  · funext k; simp [upc, up]
  · funext k; simp [upc, up]
  · have ha' : ¬ (1 ≤ a ∧ a ≤ 3) := ha
    have n1 : ¬ a = 1 := by omega
    have n2 : ¬ a = 2 := by omega
    have n3 : ¬ a = 3 := by omega
    funext k
    simp [upc, up, n1, n2, n3]
theorem cl_lay (h : Psi D σ) : ∃ r σ1 σ2, J_X7_lay σ = some (r, σ1) ∧ J_X8_lay σ1 = some (r, σ2) ∧ Psi D σ2 := by
  have h0 := h
  obtain ⟨Λ, s, n, o, P, T, q, K, t, h1, h2, h3, h4, h5⟩ := h
  obtain ⟨c1, c2⟩ := h5.tc
  have t2 := h5.1
  obtain ⟨σ1, a1, a2, a3⟩ := jc_firstFault c1
  have Fa : Fs Wk σ σ1 := a3.mono fun _ _ z => z.wk
  unfold J_X7_lay J_X7_begin
  rw [a1, bd2_s]
  cases y : (faR (txL σ) t).1 with
  | some f =>
    have fl := allR_lt 201 0 r0 f y
    obtain ⟨σ2, b1, b2, b3⟩ := jm_fault (c2.rc a3)
    rw [y] at b1
    rw [if_neg (show ¬ onI4 (some f) = -4 from nI_nem4 (by omega)), bd2_s, if_pos z00]
    refine ⟨-2, σ1, σ2, rfl, ?_, h0.fr (Fa.tr (b3.mono fun _ _ z => z.wk))⟩
    unfold J_X8_lay
    rw [b1, bd2_s, if_neg (show ¬ onI4 (some f) = -4 from nI_nem4 (by omega))]
  | none =>
    obtain ⟨rc, ok⟩ := a2 y
    have b8 := ok.2.2.2.1
    rw [if_pos (show onI4 none = -4 from rfl), rc.2.2.2.1]
    generalize hr : (faR (txL σ) t).2 = r at rc ok b8 ⊢
    by_cases hB : 1 ≤ rB r
    · obtain ⟨τ, e1, e2, e3, e4, e5⟩ := @jc_landCopy σ1
      obtain ⟨m9, l6⟩ := rc.m9 ok
      have mτ : MC τ 9 (laΛ r) (laS r) := MC.fr m9 (e5 _ (by decide)) (e5 _ (by decide)) (e5 _ (by decide)) (e5 _ (by decide)) (e5 _ (by decide))
      have lτ : LC τ 1 (laΛ r) := by
        obtain ⟨d0, d1, d3, d4, d5, d6, d7, d8⟩ := l6
        refine ⟨?_, ?_, ?_, ?_, ?_, ?_, fun b hb => ?_, fun k hk => ?_⟩
        · rw [e2 0 (by decide)]; exact d0
        · rw [e2 1 (by decide)]; exact d1
        · rw [e2 3 (by decide)]; exact d3
        · rw [e2 4 (by decide)]; exact d4
        · rw [e2 5 (by decide)]; exact d5
        · rw [e2 6 (by decide)]; exact d6
        · show τ 2 b = _; rw [e3]; exact d7 b hb
        · show τ 3 k = _; rw [e4]; exact d8 k hk
      obtain ⟨σ3, f1, f2, f3⟩ := jc_copy (c := 14) (d := 9) mτ (by decide)
      have lσ3 : LC σ3 1 (laΛ r) := LC.fr lτ (f3 1 (by decide)) (f3 2 (by decide)) (f3 3 (by decide))
      have m4 : MC (up (up σ3 24 3 0) 0 8 0) 14 (laΛ r) (laS r) := (f2.upo (by decide)).upo (by decide)
      have l4 : LC (up (up σ3 24 3 0) 0 8 0) 1 (laΛ r) := LC.fr lσ3 (by rw [up_na (by decide), up_na (by decide)]) (by rw [up_na (by decide), up_na (by decide)]) (by rw [up_na (by decide), up_na (by decide)])
      have FC : Fs (fun a j => Rcl a j ∨ (1 ≤ a ∧ a ≤ 3) ∨ (14 ≤ a ∧ a ≤ 18) ∨ (a = 24 ∧ j = 3) ∨ (a = 0 ∧ j = 8)) σ (up (up σ3 24 3 0) 0 8 0) := by
        refine Fs.up (P := fun a j => Rcl a j ∨ (1 ≤ a ∧ a ≤ 3) ∨ (14 ≤ a ∧ a ≤ 18) ∨ (a = 24 ∧ j = 3) ∨ (a = 0 ∧ j = 8)) (Fs.up (P := fun a j => Rcl a j ∨ (1 ≤ a ∧ a ≤ 3) ∨ (14 ≤ a ∧ a ≤ 18) ∨ (a = 24 ∧ j = 3) ∨ (a = 0 ∧ j = 8)) ?_ (Or.inr (Or.inr (Or.inr (Or.inl ⟨rfl, rfl⟩))))) (Or.inr (Or.inr (Or.inr (Or.inr ⟨rfl, rfl⟩))))
        exact (a3.mono fun _ _ z => Or.inl z).tr ((e5.fs fun a j z => Or.inr (Or.inl z)).tr (f3.fs fun a j z => Or.inr (Or.inr (Or.inl z))))
      have y3 : (up (up σ3 24 3 0) 0 8 0) 24 3 = nI 0 := by rw [up_n (by decide), up_s]; rfl
      have y8 : (up (up σ3 24 3 0) 0 8 0) 0 8 = nI 0 := up_s
      rw [if_pos (show (1 : Int32) ≤ nI (rB r) from by rw [li_1, nI_leI (by omega) (by omega)]; exact hB), e1, bd2_s, f1, bd2_s, bd2_s, if_neg n10, l4.2.2.1]
      generalize up (up σ3 24 3 0) 0 8 0 = σ4 at m4 l4 FC y3 y8 ⊢
      have c4 : TM σ4 (txL σ) t := by
        obtain ⟨u1, u2, u3⟩ := c2
        refine ⟨?_, u2, fun i hi => ?_⟩
        · rw [FC 141 17 (fun z => by rcases z with z | z; (have := z.no; omega); omega)]; exact u1
        · rw [FC 150 i (fun z => by rcases z with z | z; (have := z.no; omega); omega)]; exact u3 i hi
      obtain ⟨σ5, b1, b2, b3⟩ := jm_fault c4
      have rm := b2 y
      rw [hr] at rm
      obtain ⟨σ6, g1, g2, g3, g4, g5, g6⟩ := jm_settles rm ok hB
      obtain ⟨lok, sok⟩ := la_ok ok hB
      have FM : Fs (fun a j => Rml a j ∨ Rse a j) σ4 σ6 := (b3.mono fun _ _ z => Or.inl z).tr (g6.mono fun _ _ z => Or.inr z)
      have nFM : ∀ a j, Rml a j ∨ Rse a j → (a = 141 ∧ 18 ≤ j) ∨ (151 ≤ a ∧ a ≤ 156) ∨ (142 ≤ a ∧ a ≤ 146) ∨ (a = 141 ∧ j ≤ 14) := by
        intro a j z
        rcases z with z | z
        · have := z.no; omega
        · have := z.no; omega
      have nFC : ∀ a j, (Rcl a j ∨ (1 ≤ a ∧ a ≤ 3) ∨ (14 ≤ a ∧ a ≤ 18) ∨ (a = 24 ∧ j = 3) ∨ (a = 0 ∧ j = 8)) → (a = 4 ∧ j = 4) ∨ (6 ≤ a ∧ a ≤ 13) ∨ (1 ≤ a ∧ a ≤ 3) ∨ (14 ≤ a ∧ a ≤ 18) ∨ (a = 24 ∧ j = 3) ∨ (a = 0 ∧ j = 8) := by
        intro a j z
        rcases z with z | z
        · have := z.no; omega
        · omega
      refine ⟨nI (lNb (laΛ r)), σ4, σ6, rfl, ?_, laΛ r, laS r, 0, o, P, T, 0, K, t, ⟨l4.frs FM fun a j z1 z2 w => by have := nFM _ _ w; omega, g2, lok⟩, ⟨m4.frs FM fun a j z1 z2 w => by have := nFM _ _ w; omega, g3, sok, Nat.zero_le _⟩, PsiP.of ⟨by omega, h3.2.1, fun i hi => by omega⟩ ⟨?_, ?_, fun i hi => by omega⟩ ⟨g4, fun i hi => by omega⟩, PsiK.of ⟨by omega, fun i hi => by omega⟩ ⟨?_, fun i hi => by omega⟩ ⟨g5, fun i hi => by omega⟩, (h5.gfr FC fun a j z w => by have := nFC _ _ w; omega).gfr FM fun a j z w => by have := nFM _ _ w; omega⟩
      · unfold J_X8_lay
        rw [b1, bd2_s, y, if_pos (show onI4 none = -4 from rfl), rm.2.2.1, if_neg (nne li_0 (by omega) (by omega) (by omega)), g1, bd2_s, g2.2.2.1]
      · rw [FM 24 3 (fun w => by have := nFM _ _ w; omega)]; exact y3
      · rw [FM 24 4 (fun w => by have := nFM _ _ w; omega), FC 24 4 (fun w => by have := nFC _ _ w; omega)]; exact h3.2.2.2.1
      · rw [FM 0 8 (fun w => by have := nFM _ _ w; omega)]; exact y8
    · have hB0 : rB r = 0 := by omega
      obtain ⟨σ2, b1, b2, b3⟩ := jm_fault (c2.rc a3)
      have rm := b2 y
      rw [hr] at rm
      rw [if_neg (show ¬ (1 : Int32) ≤ nI (rB r) from by rw [li_1, nI_leI (by omega) (by omega)]; exact hB), bd2_s, if_pos z00]
      refine ⟨-2, σ1, σ2, rfl, ?_, h0.fr (Fa.tr (b3.mono fun _ _ z => z.wk))⟩
      unfold J_X8_lay
      rw [b1, bd2_s, y, if_pos (show onI4 none = -4 from rfl), rm.2.2.1, if_pos (neq li_0 hB0)]
end LAY2
