/-! what is won by turns; the model -/
def nxK (Λ : LT) (s : ST) : Nat → Nat → Nat
  | 0, _ => 99
  | k + 1, d => if canN Λ s d = true then d else nxK Λ s k (d + 1)
/-- the first drive not before d, resting last -/
def nxN (Λ : LT) (s : ST) (d : Nat) : Nat := nxK Λ s (10 * lNb Λ - d) d
theorem nxK_spec {Λ : LT} {s : ST} (h8 : lNb Λ ≤ 8) : ∀ k d, d + k = 10 * lNb Λ ∨ (k = 0 ∧ 10 * lNb Λ ≤ d) → d ≤ 99 → d ≤ nxK Λ s k d ∧ nxK Λ s k d ≤ 99 ∧ (nxK Λ s k d = 99 ∨ canN Λ s (nxK Λ s k d) = true) ∧ ∀ e, d ≤ e → e < nxK Λ s k d → e < 10 * lNb Λ → canN Λ s e = false := by
  intro k
  induction k with
  | zero =>
    intro d h1 h2
    unfold nxK
    exact ⟨h2, Nat.le_refl _, Or.inl rfl, fun e z1 z2 z3 => by omega⟩
  | succ k ih =>
    intro d h1 h2
    unfold nxK
    cases c : canN Λ s d with
    | true =>
      rw [if_pos rfl]
      exact ⟨Nat.le_refl _, h2, Or.inr c, fun e z1 z2 _ => by omega⟩
    | false =>
      rw [if_neg (by decide)]
      obtain ⟨i1, i2, i3, i4⟩ := ih (d + 1) (by omega) (by omega)
      refine ⟨by omega, i2, i3, fun e z1 z2 z3 => ?_⟩
      by_cases q : e = d
      · rw [q]; exact c
      · exact i4 e (by omega) z2 z3
theorem nxN_spec {Λ : LT} {s : ST} (h8 : lNb Λ ≤ 8) {d : Nat} (hd : d ≤ 99) : d ≤ nxN Λ s d ∧ nxN Λ s d ≤ 99 ∧ (nxN Λ s d = 99 ∨ canN Λ s (nxN Λ s d) = true) ∧ ∀ e, d ≤ e → e < nxN Λ s d → e < 10 * lNb Λ → canN Λ s e = false :=
  nxK_spec h8 _ _ (by omega) hd
theorem can_drv {Λ : LT} {s : ST} (hl : lostI Λ s = 0) (d : Nat) : canN Λ s d = decide (drvN Λ s (d / 10) (d % 10) ≠ 36) := by
  unfold canN
  simp [hl]
theorem gmF_skip {v : ST → Int32} {Λ : LT} {s : ST} (h8 : lNb Λ ≤ 8) (hl : lostI Λ s = 0) {a : Int32 × Int32} : ∀ (k d : Nat), d + k = nxN Λ s d → d ≤ 99 → ∀ (t e : Nat), e + t = nxN Λ s d → d ≤ e → gmF v Λ s (100 - e) e a = gmF v Λ s (100 - nxN Λ s d) (nxN Λ s d) a := by
  intro k d hk hd t
  obtain ⟨n1, n2, n3, n4⟩ := nxN_spec (s := s) h8 hd
  induction t with
  | zero =>
    intro e h1 h2
    rw [show e = nxN Λ s d by omega]
  | succ t ih =>
    intro e h1 h2
    rw [← ih (e + 1) (by omega) (by omega), show 100 - e = (100 - (e + 1)) + 1 by omega, gmF]
    rw [if_neg]
    intro z
    rcases z with z | z
    · omega
    · by_cases c : e < 10 * lNb Λ
      · have := n4 e h2 (by omega) c
        rw [can_drv hl] at this
        simp [z] at this
      · exact z (by unfold drvN; rw [if_neg (by omega)])
theorem gmF_next {v : ST → Int32} {Λ : LT} {s : ST} (h8 : lNb Λ ≤ 8) (hl : lostI Λ s = 0) {a : Int32 × Int32} {d : Nat} (hd : d ≤ 99) : gmF v Λ s (100 - d) d a = gmF v Λ s (100 - (nxN Λ s d + 1)) (nxN Λ s d + 1) (gmU (sD s % 2) (nxN Λ s d) (v (livS Λ s (nxN Λ s d))) a) := by
  obtain ⟨n1, n2, n3, n4⟩ := nxN_spec (s := s) h8 hd
  rw [gmF_skip h8 hl (nxN Λ s d - d) d (by omega) hd (nxN Λ s d - d) d (by omega) (Nat.le_refl _), show 100 - nxN Λ s d = (100 - (nxN Λ s d + 1)) + 1 by omega, gmF, if_pos]
  rcases n3 with z | z
  · exact Or.inl z
  · rw [can_drv hl] at z
    exact Or.inr (by simpa using z)
/-- how many rounds a node takes at most -/
def gmC : Nat → Nat
  | 0 => 1
  | m + 1 => 1 + 100 * (1 + gmC m)
def GL (L : Nat) (a j : Nat) : Prop := Wt a j ∨ (a = 162 ∧ 54 * (L + 1) ≤ j) ∨ (a = 163 ∧ L ≤ j) ∨ (a = 164 ∧ L ≤ j)
theorem GL.no {L a j : Nat} (h : GL L a j) : a = 157 ∨ (a = 141 ∧ j = 32) ∨ (a = 162 ∧ 54 * (L + 1) ≤ j) ∨ (a = 163 ∧ L ≤ j) ∨ (a = 164 ∧ L ≤ j) := by
  rcases h with (z | z) | z
  · exact Or.inl z
  · exact Or.inr (Or.inl z)
  · exact Or.inr (Or.inr z)
theorem GL.up {L a j : Nat} (h : GL (L + 1) a j) : GL L a j := by
  rcases h with z | z | z | z
  · exact Or.inl z
  · exact Or.inr (Or.inl ⟨z.1, by omega⟩)
  · exact Or.inr (Or.inr (Or.inl ⟨z.1, by omega⟩))
  · exact Or.inr (Or.inr (Or.inr ⟨z.1, by omega⟩))
section GAME2
variable {σ : Sg} {D : Nat} {Λ : LT} {s : ST}
theorem LM.w32 {σ' : Sg} (h : LM σ Λ) (f : Fs W32 σ σ') : LM σ' Λ := h.wt (f.mono fun _ _ z => z.wt)
theorem jm_nextLoop {x1 : Int32} (hx : ¬ (99 : Int32) ≤ x1) (hd : sD s < 2 ^ 28) : ∀ (k d j : Nat) (σ : Sg), (d + k = 10 * lNb Λ ∨ (k = 0 ∧ 10 * lNb Λ ≤ d)) → k < j → d < 1000 → MS σ Λ s → ∃ σ', J_X8_nextDrive_b4 j x1 (nI d) σ = some (nI (nxK Λ s k d), σ') ∧ MS σ' Λ s ∧ Fs W32 σ σ' := by
  intro k
  induction k with
  | zero =>
    intro d j σ hk hj hd2 h
    obtain ⟨j, rfl⟩ : ∃ i, j = i + 1 := ⟨j - 1, by omega⟩
    have h8 := h.nb8
    refine ⟨σ, ?_, h, Fs.rf⟩
    rw [J_X8_nextDrive_b4, h.nb, show (10 : Int32) * nI (lNb Λ) = nI (10 * lNb Λ) from by rw [li_10, nI_mul], if_pos ((nI_leI (by omega) (by omega)).mpr (by omega)), if_neg hx]
    rfl
  | succ k ih =>
    intro d j σ hk hj hd2 h
    obtain ⟨j, rfl⟩ : ∃ i, j = i + 1 := ⟨j - 1, by omega⟩
    have h8 := h.nb8
    obtain ⟨σ1, r1, r2, r3⟩ := jm_canDrive h hd hd2
    rw [J_X8_nextDrive_b4, h.nb, show (10 : Int32) * nI (lNb Λ) = nI (10 * lNb Λ) from by rw [li_10, nI_mul], if_neg (fun z => by have := (nI_leI (by omega) (by omega)).mp z; omega), r1, bd2_s, nxK]
    cases c : canN Λ s d with
    | true =>
      rw [if_neg (show ¬ bI true = 0 from by decide), if_pos (show true = true from rfl)]
      exact ⟨σ1, rfl, r2, r3⟩
    | false =>
      rw [if_pos (show bI false = 0 from rfl), if_neg (show ¬ false = true by decide), show nI d + (1 : Int32) = nI (d + 1) from by rw [li_1, nI_add]]
      obtain ⟨σ2, t1, t2, t3⟩ := ih (d + 1) j σ1 (by omega) (by omega) (by omega) r2
      exact ⟨σ2, t1, t2, r3.tr t3⟩
theorem jm_nextDrive (h : MS σ Λ s) (hd : sD s < 2 ^ 28) {d : Nat} (hd2 : d ≤ 99) : ∃ σ', J_X8_nextDrive (nI d - 1) σ = some (nI (nxN Λ s d), σ') ∧ MS σ' Λ s ∧ Fs W32 σ σ' := by
  have h8 := h.nb8
  unfold J_X8_nextDrive nxN
  rw [show nI d - (1 : Int32) + (1 : Int32) = nI d from Int32.sub_add_cancel _ _]
  refine jm_nextLoop ?_ hd (10 * lNb Λ - d) d FU σ (by omega) (by rw [FU_eq]; omega) (by omega) h
  by_cases e : d = 0
  · rw [e]; decide
  · rw [li_1, nI_subI (by omega), li_99, nI_leI (by omega) (by omega)]; omega
theorem MM.w32 {A o : Nat} {σ' : Sg} (h : MM σ A o Λ s) (hA : A ≠ 141) (f : Fs W32 σ σ') : MM σ' A o Λ s :=
  MM.fr h (funext fun j => f A j (fun z => hA z.1))
/-- the rounds at a node from drive d on -/
theorem jm_gmLoop {n L m : Nat} (hn : n ≤ 3) (hL : L + (m + 1) = n) (hΛ : LOK Λ) (hs : SOK Λ s) (hl : lostI Λ s = 0) (hd : sD s + m + 1 < 2 ^ 27)
    (child : ∀ s' k f σ, SOK Λ s' → sD s' + m < 2 ^ 27 → gmC m ≤ k → LM σ Λ → MM σ 162 (54 * (L + 1)) Λ s' → σ 163 (L + 1) = -1 → ∃ k' σ', k ≤ k' + gmC m ∧ J_X8_plays_b27 k (nI n) (nI (L + 1)) f σ = J_X8_plays_b167 (fun x1 x2 x3 σ => J_X8_plays_b27 k' x1 x2 x3 σ) (nI n) (nI (L + 1)) f (gmV Λ m s').2 σ' ∧ Fs (GL (L + 1)) σ σ') :
    ∀ (r d k : Nat) (a : Int32 × Int32) (f : Int32) (σ : Sg), d + r = 100 → 1 + r * (1 + gmC m) ≤ k → LM σ Λ → MM σ 162 (54 * L) Λ s → σ 163 L = nI d - 1 → ((a.1 = -4 ∧ d ≤ nxN Λ s 0) ∨ (a.1 ≠ -4 ∧ nxN Λ s 0 < d ∧ σ 164 L = a.2 ∧ (L = 0 → f = a.1))) → ∃ k' σ' f', k ≤ k' + (1 + r * (1 + gmC m)) ∧ J_X8_plays_b27 k (nI n) (nI L) f σ = J_X8_plays_b167 (fun x1 x2 x3 σ => J_X8_plays_b27 k' x1 x2 x3 σ) (nI n) (nI L) f' (gmF (fun s' => (gmV Λ m s').2) Λ s r d a).2 σ' ∧ Fs (GL L) σ σ' ∧ (L ≠ 0 → f' = f) ∧ (L = 0 → f' = (gmF (fun s' => (gmV Λ m s').2) Λ s r d a).1) := by
  have h8 := hΛ.2.2.1.2
  have L6 : inb (nI L) 6 = true := (inb_nI (by omega)).mpr (by omega)
  have nx0 := nxN_spec (Λ := Λ) (s := s) h8 (show 0 ≤ 99 by decide)
  intro r
  induction r using Nat.strongRecOn with
  | _ r ih =>
  intro d k a f σ hr hk hLM hM ht ha
  obtain ⟨k, rfl⟩ : ∃ i, k = i + 1 := ⟨k - 1, by omega⟩
  obtain ⟨σ1, r1, r2, r3⟩ := jm_copyRow (A := 157) (B := 162) (o1 := 0) (o2 := 54 * L) (by decide) (by decide) hΛ hM (by decide) (show 54 * L + 54 ≤ 324 by omega) (by decide) (by omega)
  have f1 : Fs Wt σ σ1 := r3.mono fun a j z => Or.inl z.1
  have h1 : MS σ1 Λ s := ⟨hLM.wt f1, r2, hΛ, hs⟩
  have w1 : ∀ a j, a ≠ 157 → ¬ (a = 141 ∧ j = 32) → σ1 a j = σ a j := fun a j z1 z2 => f1 a j (fun z => by rcases z with w | w; exact z1 w; exact z2 w)
  have e27 : J_X8_plays_b27 (k + 1) (nI n) (nI L) f σ = J_X8_plays_b62 (fun x1 x2 x3 σ => J_X8_plays_b27 k x1 x2 x3 σ) (nI n) (nI L) f 0 σ1 := by
    rw [J_X8_plays_b27, show (54 : Int32) * nI L = nI (54 * L) from by rw [li_54, nI_mul], show J_X8_copies 157 0 162 (nI (54 * L)) 54 σ = _ from r1, bd2_s, if_neg (fun z => by have := (nI_inj (by omega) (by omega)).mp z; omega), jm_lost h1, bd1_s, if_pos hl]
  rw [e27]
  unfold J_X8_plays_b62
  rw [if_pos z00, if_pos L6, nI_clamp (by omega), w1 163 L (by decide) (by omega), ht]
  by_cases e : r = 0
  · have d100 : d = 100 := by omega
    have ha' : a.1 ≠ -4 ∧ nxN Λ s 0 < d ∧ σ 164 L = a.2 ∧ (L = 0 → f = a.1) := by
      rcases ha with z | z
      · have := z.2; omega
      · exact z
    rw [e, d100, if_pos (show nI 100 - (1 : Int32) = 99 from by decide)]
    unfold J_X8_plays_b95
    rw [if_pos (show (100 : Int32) = 100 from rfl), if_pos z00, if_pos L6, nI_clamp (by omega), w1 164 L (by decide) (by omega), ha'.2.2.1]
    exact ⟨k, σ1, f, by omega, rfl, f1.mono fun _ _ z => Or.inl z, fun _ => rfl, ha'.2.2.2⟩
  · have hd99 : d ≤ 99 := by omega
    have n99 : ¬ nI d - (1 : Int32) = 99 := fun z => by
      by_cases d0 : d = 0
      · rw [d0] at z; exact absurd z (by decide)
      · rw [li_1, nI_subI (by omega)] at z
        have := (nI_inj (b := 99) (by omega) (by omega)).mp z
        omega
    obtain ⟨n1, n2, n3, n4⟩ := nxN_spec (s := s) h8 hd99
    obtain ⟨σ2, t1, t2, t3⟩ := jm_nextDrive h1 (by omega) hd99
    have e100 : (100 : Int32) = nI 100 := rfl
    rw [if_neg n99, if_pos L6, t1, bd2_s]
    unfold J_X8_plays_b95
    rw [if_neg (nne e100 (by omega) (by omega) (by omega)), if_pos L6, nI_clamp (n := L) (by omega)]
    have hr2 : r = 100 - d := by omega
    rw [hr2, gmF_next h8 hl hd99]
    have hcand : nxN Λ s d = 99 ∨ drvN Λ s (nxN Λ s d / 10) (nxN Λ s d % 10) ≠ 36 := by
      rcases n3 with z | z
      · exact Or.inl z
      · rw [can_drv hl] at z; exact Or.inr (by simpa using z)
    have hfst : (nxN Λ s 0 = nxN Λ s d) ↔ d ≤ nxN Λ s 0 := by
      obtain ⟨m1, m2, m3, m4⟩ := nx0
      constructor
      · intro z; omega
      · intro z
        by_cases c1 : nxN Λ s 0 < nxN Λ s d
        · exfalso
          rcases m3 with y | y
          · omega
          · have b1 : nxN Λ s 0 < 10 * lNb Λ := by
              by_cases c2 : nxN Λ s 0 < 10 * lNb Λ
              · exact c2
              · rw [can_drv hl] at y
                exfalso
                have y2 : drvN Λ s (nxN Λ s 0 / 10) (nxN Λ s 0 % 10) ≠ 36 := by simpa using y
                exact y2 (by unfold drvN; rw [if_neg (by omega)])
            have := n4 _ z c1 b1
            rw [this] at y
            exact absurd y (by decide)
        · by_cases c2 : nxN Λ s d < nxN Λ s 0
          · exfalso
            rcases n3 with y | y
            · omega
            · have b1 : nxN Λ s d < 10 * lNb Λ := by
                by_cases c3 : nxN Λ s d < 10 * lNb Λ
                · exact c3
                · rw [can_drv hl] at y
                  exfalso
                  have y2 : drvN Λ s (nxN Λ s d / 10) (nxN Λ s d % 10) ≠ 36 := by simpa using y
                  exact y2 (by unfold drvN; rw [if_neg (by omega)])
              have := m4 _ (Nat.zero_le _) c2 b1
              rw [this] at y
              exact absurd y (by decide)
          · omega
    generalize nxN Λ s d = x at n1 n2 t1 hcand hfst ⊢
    have h2 : MS (up σ2 163 L (nI x)) Λ s := ⟨(h1.1.w32 t3).up (by decide), t2.2.1.upo (by decide), hΛ, hs⟩
    obtain ⟨σ3, y1, y2, y3⟩ := jm_goesBy h2 (by omega) (d := x) (by omega) hcand
    have L3 := y2.1
    obtain ⟨σ4, v1, v2, v3⟩ := jm_copyRow (A := 162) (B := 157) (o1 := 54 * (L + 1)) (o2 := 0) (by decide) (by decide) hΛ y2.2.1 (show 54 * (L + 1) + 54 ≤ 324 by omega) (by decide) (by omega) (by decide)
    have a1 : nI L + (1 : Int32) = nI (L + 1) := by rw [li_1, nI_add]
    have L61 : inb (nI (L + 1)) 6 = true := (inb_nI (by omega)).mpr (by omega)
    -- what has changed until the child begins
    have F4 : Fs (fun a j => Wt a j ∨ (a = 162 ∧ 54 * (L + 1) ≤ j) ∨ (a = 163 ∧ (j = L ∨ j = L + 1))) σ (up σ4 163 (L + 1) (-1)) := by
      refine Fs.up (P := fun a j => Wt a j ∨ (a = 162 ∧ 54 * (L + 1) ≤ j) ∨ (a = 163 ∧ (j = L ∨ j = L + 1))) ?_ (Or.inr (Or.inr ⟨rfl, Or.inr rfl⟩))
      refine Fs.tr (f1.mono fun _ _ z => Or.inl z) (Fs.tr (t3.mono fun _ _ z => Or.inl z.wt) (Fs.tr (Fs.up (P := fun a j => Wt a j ∨ (a = 162 ∧ 54 * (L + 1) ≤ j) ∨ (a = 163 ∧ (j = L ∨ j = L + 1))) Fs.rf (Or.inr (Or.inr ⟨rfl, Or.inl rfl⟩))) (Fs.tr (y3.mono fun _ _ z => Or.inl z) (v3.mono fun a j z => Or.inr (Or.inl ⟨z.1, z.2.1⟩)))))
    have tL : (up σ4 163 (L + 1) (-1)) 163 L = nI x := by
      rw [up_i (by omega), v3 163 L (fun z => by have := z.1; omega), y3 163 L (fun z => by rcases z with w | w; exact absurd w (by decide); exact absurd w.1 (by decide)), up_s]
    have wt157 : ∀ a j, Wt a j → a = 157 ∨ (a = 141 ∧ j = 32) := fun _ _ z => z
    have M4 : MM (up σ4 163 (L + 1) (-1)) 162 (54 * L) Λ s := hM.frs hΛ F4 fun j z1 z2 w => by
      rcases w with w | w | w
      · have := wt157 _ _ w; omega
      · omega
      · omega
    have b4 : (up σ4 163 (L + 1) (-1)) 164 L = σ 164 L := F4 164 L (fun w => by
      rcases w with w | w | w
      · have := wt157 _ _ w; omega
      · omega
      · omega)
    have LM4 : LM (up σ4 163 (L + 1) (-1)) Λ := hLM.frs F4 fun a j z1 z2 z3 w => by
      rcases w with w | w | w
      · have := wt157 _ _ w; omega
      · omega
      · omega
    have hmul : r * (1 + gmC m) = (r - 1) * (1 + gmC m) + (1 + gmC m) := by
      rw [← Nat.succ_mul]; congr 1; omega
    obtain ⟨k1, σ5, c1, c2, c3⟩ := child (livS Λ s x) k f (up σ4 163 (L + 1) (-1)) y2.2.2.2 (by rw [livS_D]; omega) (by omega) LM4 (v2.upo (by decide)) up_s
    rw [y1, bd2_s, a1, show (54 : Int32) * nI (L + 1) = nI (54 * (L + 1)) from by rw [li_54, nI_mul], show J_X8_copies 162 (nI (54 * (L + 1))) 157 0 54 σ3 = _ from v1, bd2_s, if_pos L61, nI_clamp (n := L + 1) (by omega)]
    have beta : (fun x1 x2 x3 σ => J_X8_plays_b27 k x1 x2 x3 σ) (nI n) (nI (L + 1)) f (up σ4 163 (L + 1) (-1)) = J_X8_plays_b27 k (nI n) (nI (L + 1)) f (up σ4 163 (L + 1) (-1)) := rfl
    rw [beta, c2]
    -- back at the node
    have G5 : Fs (GL L) σ σ5 := (F4.mono fun a j z => by
      rcases z with z | z | z
      · exact Or.inl z
      · exact Or.inr (Or.inl z)
      · exact Or.inr (Or.inr (Or.inl ⟨z.1, by omega⟩))).tr (c3.mono fun _ _ z => z.up)
    have t5 : σ5 163 L = nI x := by rw [c3 163 L (fun z => by have := z.no; omega)]; exact tL
    have b5 : σ5 164 L = σ 164 L := by rw [c3 164 L (fun z => by have := z.no; omega)]; exact b4
    have M5 : MM σ5 162 (54 * L) Λ s := M4.frs hΛ c3 fun j z1 z2 w => by have := w.no; omega
    have LM5 : LM σ5 Λ := LM4.frs c3 fun a j z1 z2 z3 w => by have := w.no; omega
    obtain ⟨σ6, g1, g2, g3⟩ := jm_copyRow (A := 157) (B := 162) (o1 := 0) (o2 := 54 * L) (by decide) (by decide) hΛ M5 (by decide) (show 54 * L + 54 ≤ 324 by omega) (by decide) (by omega)
    have f6 : Fs Wt σ5 σ6 := g3.mono fun a j z => Or.inl z.1
    obtain ⟨σ7, u1, u2, u3⟩ := jm_nextDrive (σ := σ6) ⟨LM5.wt f6, g2, hΛ, hs⟩ (by omega) (show 0 ≤ 99 by decide)
    have f7 : Fs Wt σ5 σ7 := f6.tr (u3.mono fun _ _ z => z.wt)
    have w7 : ∀ a j, a ≠ 157 → ¬ (a = 141 ∧ j = 32) → σ7 a j = σ5 a j := fun a j z1 z2 => f7 a j (fun z => by rcases z with w | w; exact z1 w; exact z2 w)
    have isF : J_X8_isFirstOf (nI L) σ5 = some (if nxN Λ s 0 = x then 1 else 0, σ7) := by
      unfold J_X8_isFirstOf
      rw [show (54 : Int32) * nI L = nI (54 * L) from by rw [li_54, nI_mul], show J_X8_copies 157 0 162 (nI (54 * L)) 54 σ5 = _ from g1, bd2_s, show J_X8_nextDrive (-1) σ6 = _ from u1, bd2_s, if_pos L6, nI_clamp (by omega), w7 163 L (by decide) (by omega), t5]
      by_cases q : nxN Λ s 0 = x
      · rw [if_pos (by rw [q]), if_pos q]
      · rw [if_neg (fun z => q ((nI_inj (by have := nx0.2.1; omega) (by omega)).mp z)), if_neg q]
    have sb : nI (L + 1) + (-1 : Int32) = nI L := by
      rw [← a1, Int32.add_assoc, show (1 : Int32) + -1 = 0 from by decide, ad0]
    have M7 : MM σ7 162 (54 * L) Λ s := M5.frs hΛ f7 fun j z1 z2 w => by have := wt157 _ _ w; omega
    have LM7 : LM σ7 Λ := LM5.wt f7
    generalize hw : (gmV Λ m (livS Λ s x)).2 = w
    have G7 : Fs (GL L) σ σ7 := G5.tr (f7.mono fun _ _ z => Or.inl z)
    have rest : ∀ (a' : Int32 × Int32) (f8 v8 : Int32), gmU (sD s % 2) x w a = a' → a'.1 ≠ -4 → v8 = a'.2 → (L = 0 → f8 = a'.1) → (L ≠ 0 → f8 = f) → ∃ k' σ' f', k + 1 ≤ k' + (1 + (100 - d) * (1 + gmC m)) ∧ J_X8_plays_b27 k1 (nI n) (nI L) f8 (up σ7 164 L v8) = J_X8_plays_b167 (fun x1 x2 x3 σ => J_X8_plays_b27 k' x1 x2 x3 σ) (nI n) (nI L) f' (gmF (fun s' => (gmV Λ m s').2) Λ s (100 - (x + 1)) (x + 1) (gmU (sD s % 2) x w a)).2 σ' ∧ Fs (GL L) σ σ' ∧ (L ≠ 0 → f' = f) ∧ (L = 0 → f' = (gmF (fun s' => (gmV Λ m s').2) Λ s (100 - (x + 1)) (x + 1) (gmU (sD s % 2) x w a)).1) := by
      intro a' f8 v8 ha' hne hv8 hf8 hf9
      have hm2 : (100 - (x + 1)) * (1 + gmC m) ≤ (r - 1) * (1 + gmC m) := Nat.mul_le_mul_right _ (by omega)
      obtain ⟨k2, σ9, f9, j1, j2, j3, j4, j5⟩ := ih (100 - (x + 1)) (by omega) (x + 1) k1 a' f8 (up σ7 164 L v8) (by omega) (by omega) (LM7.up (by decide)) (M7.upo (by decide)) (by rw [up_n (by decide), w7 163 L (by decide) (by omega), t5, ← nI_add, ← li_1]; exact (Int32.add_sub_cancel _ _).symm) (Or.inr ⟨hne, by
        have := hfst
        by_cases q : d ≤ nxN Λ s 0
        · have := this.mpr q; omega
        · omega, by rw [up_s]; exact hv8, hf8⟩)
      rw [ha']
      refine ⟨k2, σ9, f9, ?_, j2, (Fs.up (P := GL L) G7 (Or.inr (Or.inr (Or.inr ⟨rfl, Nat.le_refl _⟩)))).tr j3, fun z => (j4 z).trans (hf9 z), j5⟩
      rw [← hr2]
      omega
    have xne : nI x ≠ -4 := nI_nem4 (by omega)
    have yes : gmU (sD s % 2) x w a = (nI x, w) → ∃ k' σ' f', k + 1 ≤ k' + (1 + (100 - d) * (1 + gmC m)) ∧ J_X8_plays_b239 (fun x1 x2 x3 σ => J_X8_plays_b27 k1 x1 x2 x3 σ) (nI n) (nI L) f w σ7 = J_X8_plays_b167 (fun x1 x2 x3 σ => J_X8_plays_b27 k' x1 x2 x3 σ) (nI n) (nI L) f' (gmF (fun s' => (gmV Λ m s').2) Λ s (100 - (x + 1)) (x + 1) (gmU (sD s % 2) x w a)).2 σ' ∧ Fs (GL L) σ σ' ∧ (L ≠ 0 → f' = f) ∧ (L = 0 → f' = (gmF (fun s' => (gmV Λ m s').2) Λ s (100 - (x + 1)) (x + 1) (gmU (sD s % 2) x w a)).1) := by
      intro hg
      unfold J_X8_plays_b239 J_X8_plays_b267
      rw [if_pos L6, if_neg n10, nI_clamp (by omega)]
      by_cases q : L = 0
      · rw [if_pos (neq li_0 q), up_n (by decide), show σ7 163 0 = nI x from by rw [← q, w7 163 L (by decide) (by omega), t5]]
        exact rest (nI x, w) (nI x) w hg xne rfl (fun _ => rfl) (fun z => absurd q z)
      · rw [if_neg (nne li_0 (by omega) (by omega) q)]
        exact rest (nI x, w) f w hg xne rfl (fun z => absurd z q) (fun _ => rfl)
    have nob : a.1 ≠ -4 → σ 164 L = a.2 → (L = 0 → f = a.1) → gmU (sD s % 2) x w a = a → ∃ k' σ' f', k + 1 ≤ k' + (1 + (100 - d) * (1 + gmC m)) ∧ J_X8_plays_b243 (fun x1 x2 x3 σ => J_X8_plays_b27 k1 x1 x2 x3 σ) (nI n) (nI L) f w σ7 = J_X8_plays_b167 (fun x1 x2 x3 σ => J_X8_plays_b27 k' x1 x2 x3 σ) (nI n) (nI L) f' (gmF (fun s' => (gmV Λ m s').2) Λ s (100 - (x + 1)) (x + 1) (gmU (sD s % 2) x w a)).2 σ' ∧ Fs (GL L) σ σ' ∧ (L ≠ 0 → f' = f) ∧ (L = 0 → f' = (gmF (fun s' => (gmV Λ m s').2) Λ s (100 - (x + 1)) (x + 1) (gmU (sD s % 2) x w a)).1) := by
      intro h3 h4 h5 hg
      unfold J_X8_plays_b243 J_X8_plays_b267
      rw [if_pos L6, if_pos L6, if_pos z00, nI_clamp (by omega), w7 164 L (by decide) (by omega), b5]
      exact rest a f (σ 164 L) hg h3 h4 h5 (fun _ => rfl)
    have key : (gmU (sD s % 2) x w a = (nI x, w) ∧ J_X8_plays_b167 (fun x1 x2 x3 σ => J_X8_plays_b27 k1 x1 x2 x3 σ) (nI n) (nI (L + 1)) f w σ5 = J_X8_plays_b239 (fun x1 x2 x3 σ => J_X8_plays_b27 k1 x1 x2 x3 σ) (nI n) (nI L) f w σ7) ∨ (a.1 ≠ -4 ∧ σ 164 L = a.2 ∧ (L = 0 → f = a.1) ∧ gmU (sD s % 2) x w a = a ∧ J_X8_plays_b167 (fun x1 x2 x3 σ => J_X8_plays_b27 k1 x1 x2 x3 σ) (nI n) (nI (L + 1)) f w σ5 = J_X8_plays_b243 (fun x1 x2 x3 σ => J_X8_plays_b27 k1 x1 x2 x3 σ) (nI n) (nI L) f w σ7) := by
      unfold J_X8_plays_b167
      rw [if_neg (nne li_0 (by omega) (by omega) (Nat.succ_ne_zero L)), sb, isF, bd2_s]
      rcases ha with ⟨ha1, ha2⟩ | ⟨ha1, ha2, ha3, ha4⟩
      · rw [if_pos (hfst.mpr ha2), if_neg n10]
        exact Or.inl ⟨by unfold gmU; rw [if_pos ha1], rfl⟩
      · have hnf : ¬ nxN Λ s 0 = x := fun z => by have := hfst.mp z; omega
        rw [if_neg hnf, if_pos z00, show (54 : Int32) * nI L + (0 : Int32) = nI (54 * L) from by rw [li_54, nI_mul, ad0], if_pos ((inb_nI (by omega)).mpr (by omega)), nI_clamp (n := 54 * L) (by omega), M7.1, li_2, rmI_nI (by omega) (by omega)]
        by_cases e2 : sD s % 2 = 0
        · rw [if_pos (neq li_0 e2), if_pos L6, nI_clamp (n := L) (by omega), w7 164 L (by decide) (by omega), b5, ha3]
          by_cases e3 : a.2 < w
          · rw [if_neg (Int32.not_le.mpr e3)]
            exact Or.inl ⟨by unfold gmU; rw [if_neg ha1, if_pos e2, if_pos e3], rfl⟩
          · rw [if_pos (Int32.not_lt.mp e3)]
            exact Or.inr ⟨ha1, rfl, ha4, by unfold gmU; rw [if_neg ha1, if_pos e2, if_neg e3], rfl⟩
        · rw [if_neg (nne li_0 (by omega) (by omega) e2), if_pos L6, nI_clamp (n := L) (by omega), w7 164 L (by decide) (by omega), b5, ha3]
          by_cases e3 : w < a.2
          · rw [if_neg (Int32.not_le.mpr e3)]
            exact Or.inl ⟨by unfold gmU; rw [if_neg ha1, if_neg e2, if_pos e3], rfl⟩
          · rw [if_pos (Int32.not_lt.mp e3)]
            exact Or.inr ⟨ha1, rfl, ha4, by unfold gmU; rw [if_neg ha1, if_neg e2, if_neg e3], rfl⟩
    rcases key with ⟨k1', k2'⟩ | ⟨k1', k2', k3', k4', k5'⟩
    · rw [k2']; exact yes k1'
    · rw [k5']; exact nob k1' k2' k3' k4'
end GAME2
