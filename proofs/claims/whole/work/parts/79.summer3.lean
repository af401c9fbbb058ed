/-! the fewest days to the well; the model's search -/
def nxV (Λ : LT) (v : Nat) (s : ST) (d : Nat) : Nat := if sD s % 2 = v then nxN Λ s d else 99
def smT (Λ : LT) (v m : Nat) (s : ST) (d : Nat) : Option (List Nat) := if sD s % 2 = v then smL Λ v (smF Λ v m) s (100 - d) d else if d ≤ 99 then smL Λ v (smF Λ v m) s 1 99 else none
def smM (Λ : LT) (v m : Nat) (s : ST) (x : Nat) (o : Option (List Nat)) : Option (List Nat) := if staN Λ (livS Λ s x) v = staN Λ s v then (match smF Λ v m (livS Λ s x) with
    | some r => some (x :: r)
    | none => o) else o
theorem smL_skip {Λ : LT} {v : Nat} {rec : ST → Option (List Nat)} {s : ST} (h8 : lNb Λ ≤ 8) (hl : lostI Λ s = 0) {d : Nat} (hd : d ≤ 99) : ∀ (t e : Nat), e + t = nxN Λ s d → d ≤ e → smL Λ v rec s (100 - e) e = smL Λ v rec s (100 - nxN Λ s d) (nxN Λ s d) := by
  intro t
  obtain ⟨n1, n2, n3, n4⟩ := nxN_spec (s := s) h8 hd
  induction t with
  | zero =>
    intro e h1 h2
    rw [show e = nxN Λ s d by omega]
  | succ t ih =>
    intro e h1 h2
    rw [← ih (e + 1) (by omega) (by omega), show 100 - e = (100 - (e + 1)) + 1 by omega, smL, if_neg]
    rintro ⟨z | z, -⟩
    · omega
    · by_cases c : e < 10 * lNb Λ
      · have := n4 e h2 (by omega) c
        rw [can_drv hl] at this
        simp [z] at this
      · exact z (by unfold drvN; rw [if_neg (by omega)])
theorem smT_next {Λ : LT} {v m : Nat} {s : ST} (h8 : lNb Λ ≤ 8) (hl : lostI Λ s = 0) {d : Nat} (hd : d ≤ 99) : d ≤ nxV Λ v s d ∧ nxV Λ v s d ≤ 99 ∧ (nxV Λ v s d = 99 ∨ drvN Λ s (nxV Λ v s d / 10) (nxV Λ v s d % 10) ≠ 36) ∧ smT Λ v m s d = smM Λ v m s (nxV Λ v s d) (smT Λ v m s (nxV Λ v s d + 1)) := by
  unfold nxV smT
  by_cases e : sD s % 2 = v
  · rw [if_pos e, if_pos e, if_pos e]
    obtain ⟨n1, n2, n3, n4⟩ := nxN_spec (s := s) h8 hd
    have n3' : nxN Λ s d = 99 ∨ drvN Λ s (nxN Λ s d / 10) (nxN Λ s d % 10) ≠ 36 := by
      rcases n3 with z | z
      · exact Or.inl z
      · rw [can_drv hl] at z; exact Or.inr (by simpa using z)
    refine ⟨n1, n2, n3', ?_⟩
    rw [smL_skip h8 hl hd (nxN Λ s d - d) d (by omega) (Nat.le_refl _), show 100 - nxN Λ s d = (100 - (nxN Λ s d + 1)) + 1 by omega, smL]
    unfold smM
    by_cases c : staN Λ (livS Λ s (nxN Λ s d)) v = staN Λ s v
    · rw [if_pos ⟨n3', c⟩, if_pos c]
      cases smF Λ v m (livS Λ s (nxN Λ s d)) <;> rfl
    · rw [if_neg (fun z => c z.2), if_neg c]
  · rw [if_neg e, if_neg e, if_neg e, if_pos hd, if_neg (show ¬ 99 + 1 ≤ 99 by decide)]
    refine ⟨hd, Nat.le_refl _, Or.inl rfl, ?_⟩
    rw [smL]
    unfold smM
    by_cases c : staN Λ (livS Λ s 99) v = staN Λ s v
    · rw [if_pos ⟨Or.inl rfl, c⟩, if_pos c]
      cases smF Λ v m (livS Λ s 99) <;> rfl
    · rw [if_neg (fun z => c z.2), if_neg c]
      rfl
section SUMMER3
variable {σ : Sg} {D : Nat} {Λ : LT} {s : ST}
theorem jm_watLoop (h : MS σ Λ s) {v : Nat} (hv : v ≤ 1) (hw : lWl Λ ≠ 36) : ∀ (k b j : Nat) (t : Bool), b + k = 9 → 9 < b + j → J_X8_isWatered_b4 j (nI v) (bI t) (nI b) σ = some (bI (t || watK Λ s v k b)) := by
  have h8 := h.nb8
  have h36 := h.sq36
  have q6 : σ 141 6 = nI (lWl Λ) := by rw [h.1.2.2.2.1, plI_of hw]
  have w36 : lWl Λ < 36 := by rcases h.2.2.1.2.2.2.2.2.1 with z | z; exact absurd z hw; omega
  intro k
  induction k with
  | zero =>
    intro b j t hb hj
    obtain ⟨j, rfl⟩ : ∃ i, j = i + 1 := ⟨j - 1, by omega⟩
    rw [J_X8_isWatered_b4, h.nb, if_pos ((nI_leI (by omega) (by omega)).mpr (by omega)), if_pos (by cases t; exact Or.inl rfl; exact Or.inr rfl), watK, Bool.or_false]
  | succ k ih =>
    intro b j t hb hj
    obtain ⟨j, rfl⟩ : ∃ i, j = i + 1 := ⟨j - 1, by omega⟩
    have a1 : nI b + (1 : Int32) = nI (b + 1) := by rw [li_1, nI_add]
    by_cases hb' : b < lNb Λ
    · have p36 := SOK.p36 h.2.2.1 h.2.2.2 hb'
      have kv := h.2.2.1.2.2.2.2.2.2.2.1 b hb'
      have i8 : inb (nI b) 8 = true := (inb_nI (by omega)).mpr (by omega)
      have i37 : inb (nI (37 + b)) 54 = true := (inb_nI (by omega)).mpr (by omega)
      have no : ∀ x : Bool, (decide (lVl Λ b = v) && (decide (lKd Λ b = 0) && decide (sP s b = lWl Λ))) = x → J_X8_isWatered_b4 j (nI v) (bI x) (nI (b + 1)) σ = some (bI (false || watK Λ s v (k + 1) b)) := by
        intro x hx
        rw [watK, if_pos hb', hx, Bool.false_or]
        exact ih (b + 1) j x (by omega) (by omega)
      rw [J_X8_isWatered_b4, h.nb, if_neg (fun z => by have := (nI_leI (by omega) (by omega)).mp z; omega), a1]
      cases t
      · rw [if_pos (show bI false = 0 from rfl), if_pos i8, nI_clamp (n := b) (by omega), h.vl hb']
        by_cases e1 : lVl Λ b = v
        · rw [if_pos (by rw [e1]), if_pos i8, h.kd0 hb']
          by_cases e2 : lKd Λ b = 0
          · rw [if_pos (neq li_0 e2), show (37 : Int32) + nI b = nI (37 + b) from by rw [li_37, nI_add], if_pos i37, nI_clamp (n := 37 + b) (by omega), h.pl hb', q6]
            by_cases e3 : sP s b = lWl Λ
            · rw [if_pos (by rw [e3])]
              exact no true (by simp [e1, e2, e3])
            · rw [if_neg (fun z => e3 ((nI_inj (by omega) (by omega)).mp z))]
              exact no false (by simp [e3])
          · rw [if_neg (nne li_0 (by omega) (by omega) e2)]
            exact no false (by simp [e2])
        · rw [if_neg (fun z => e1 ((nI_inj (by omega) (by omega)).mp z))]
          exact no false (by simp [e1])
      · rw [if_neg (show ¬ bI true = 0 from by decide), ← bI_t, ih (b + 1) j true (by omega) (by omega)]
        simp
    · rw [J_X8_isWatered_b4, h.nb, if_pos ((nI_leI (by omega) (by omega)).mpr (by omega)), if_pos (by cases t; exact Or.inl rfl; exact Or.inr rfl), watK, if_neg hb', Bool.or_false]
theorem jm_isWatered (h : MS σ Λ s) {v : Nat} (hv : v ≤ 1) (hw : lWl Λ ≠ 36) : J_X8_isWatered (nI v) σ = some (bI (watN Λ s v)) := by
  unfold J_X8_isWatered
  have := jm_watLoop h hv hw 9 0 FU false rfl (by rw [FU_eq]; omega)
  rw [Bool.false_or] at this
  exact this
theorem jm_smLoop {n L m v : Nat} (hn : n ≤ 5) (hL : L + (m + 1) = n) (hv : v ≤ 1) (hΛ : LOK Λ) (hs : SOK Λ s) (hl : lostI Λ s = 0) (hd : sD s + m + 1 < 2 ^ 27)
    (child : ∀ s' k σ, SOK Λ s' → sD s' + m < 2 ^ 27 → gmC m ≤ k → LM σ Λ → MM σ 162 (54 * (L + 1)) Λ s' → σ 163 (L + 1) = -1 →
      (∀ r, smF Λ v m s' = some r → ∃ σ', J_X8_isSummer_b24 k (nI v) (nI n) (nI (L + 1)) σ = some (1, σ') ∧ Fs (GL (L + 1)) σ σ' ∧ ∀ i, i < m → σ' 163 (L + 1 + i) = nI (r.getD i 0))
      ∧ (smF Λ v m s' = none → ∃ k' σ', k ≤ k' + gmC m ∧ J_X8_isSummer_b24 k (nI v) (nI n) (nI (L + 1)) σ = J_X8_isSummer_b24 k' (nI v) (nI n) (nI (L + 1) + (-1)) σ' ∧ Fs (GL (L + 1)) σ σ')) :
    ∀ (r d k : Nat) (σ : Sg), d + r = 100 → 1 + r * (1 + gmC m) ≤ k → LM σ Λ → MM σ 162 (54 * L) Λ s → σ 163 L = nI d - 1 →
      (∀ p, smT Λ v m s d = some p → ∃ σ', J_X8_isSummer_b24 k (nI v) (nI n) (nI L) σ = some (1, σ') ∧ Fs (GL L) σ σ' ∧ ∀ i, i < m + 1 → σ' 163 (L + i) = nI (p.getD i 0))
      ∧ (smT Λ v m s d = none → ∃ k' σ', k ≤ k' + (1 + r * (1 + gmC m)) ∧ J_X8_isSummer_b24 k (nI v) (nI n) (nI L) σ = J_X8_isSummer_b24 k' (nI v) (nI n) (nI L + (-1)) σ' ∧ Fs (GL L) σ σ') := by
  have h8 := hΛ.2.2.1.2
  have L6 : inb (nI L) 6 = true := (inb_nI (by omega)).mpr (by omega)
  have e100 : (100 : Int32) = nI 100 := rfl
  have m2 : sD s % 2 < 2 := Nat.mod_lt _ (by decide)
  have wt157 : ∀ a j, Wt a j → a = 157 ∨ (a = 141 ∧ j = 32) := fun _ _ z => z
  intro r
  induction r using Nat.strongRecOn with
  | _ r ih =>
  intro d k σ hr hk hLM hM ht
  obtain ⟨k, rfl⟩ : ∃ i, k = i + 1 := ⟨k - 1, by omega⟩
  obtain ⟨σ1, r1, r2, r3⟩ := jm_copyRow (A := 157) (B := 162) (o1 := 0) (o2 := 54 * L) (by decide) (by decide) hΛ hM (by decide) (show 54 * L + 54 ≤ 324 by omega) (by decide) (by omega)
  have f1 : Fs Wt σ σ1 := r3.mono fun a j z => Or.inl z.1
  have h1 : MS σ1 Λ s := ⟨hLM.wt f1, r2, hΛ, hs⟩
  have w1 : ∀ a j, a ≠ 157 → ¬ (a = 141 ∧ j = 32) → σ1 a j = σ a j := fun a j z1 z2 => f1 a j (fun z => by rcases z with w | w; exact z1 w; exact z2 w)
  have e24 : J_X8_isSummer_b24 (k + 1) (nI v) (nI n) (nI L) σ = J_X8_isSummer_b78 (fun x1 x2 x3 σ => J_X8_isSummer_b24 k x1 x2 x3 σ) (nI v) (nI n) (nI L) 0 σ1 := by
    have nLn : ¬ nI L = nI n := fun z => by have := (nI_inj (by omega) (by omega)).mp z; omega
    rw [J_X8_isSummer_b24, if_neg (nI_nlt0 (by omega)), show (54 : Int32) * nI L = nI (54 * L) from by rw [li_54, nI_mul], show J_X8_copies 157 0 162 (nI (54 * L)) 54 σ = _ from r1, bd2_s, if_neg nLn, if_neg nLn, jm_lost h1, bd1_s, if_pos hl]
  rw [e24]
  by_cases e : r = 0
  · have d100 : d = 100 := by omega
    have b78 : J_X8_isSummer_b78 (fun x1 x2 x3 σ => J_X8_isSummer_b24 k x1 x2 x3 σ) (nI v) (nI n) (nI L) 0 σ1 = J_X8_isSummer_b24 k (nI v) (nI n) (nI L + (-1)) σ1 := by
      unfold J_X8_isSummer_b78
      rw [if_pos z00, if_pos L6, nI_clamp (by omega), w1 163 L (by decide) (by omega), ht, d100, if_pos (show nI 100 - (1 : Int32) = 99 from by decide)]
      unfold J_X8_isSummer_b128
      rw [if_pos (show (100 : Int32) = 100 from rfl)]
    have nT : smT Λ v m s d = none := by
      rw [d100]
      unfold smT
      split
      · rfl
      · rfl
    rw [nT, b78]
    exact ⟨fun p z => absurd z (by simp), fun _ => ⟨k, σ1, by omega, rfl, f1.mono fun _ _ z => Or.inl z⟩⟩
  · have hd99 : d ≤ 99 := by omega
    have n99 : ¬ nI d - (1 : Int32) = 99 := fun z => by
      by_cases d0 : d = 0
      · rw [d0] at z; exact absurd z (by decide)
      · rw [li_1, nI_subI (by omega)] at z
        have := (nI_inj (b := 99) (by omega) (by omega)).mp z
        omega
    obtain ⟨n1, n2, n3, n4⟩ := smT_next (v := v) (m := m) (s := s) h8 hl hd99
    have b78 : ∃ σ2, J_X8_isSummer_b78 (fun x1 x2 x3 σ => J_X8_isSummer_b24 k x1 x2 x3 σ) (nI v) (nI n) (nI L) 0 σ1 = J_X8_isSummer_b128 (fun x1 x2 x3 σ => J_X8_isSummer_b24 k x1 x2 x3 σ) (nI v) (nI n) (nI L) (nI (nxV Λ v s d)) σ2 ∧ MS σ2 Λ s ∧ Fs W32 σ1 σ2 := by
      unfold J_X8_isSummer_b78 nxV
      rw [if_pos z00, if_pos L6, nI_clamp (by omega), w1 163 L (by decide) (by omega), ht, if_neg n99, h1.2.1.1, show rmI (nI (sD s)) (2 : Int32) = nI (sD s % 2) from by rw [li_2, rmI_nI (by omega) (by omega)]]
      by_cases et : sD s % 2 = v
      · obtain ⟨σ2, t1, t2, t3⟩ := jm_nextDrive h1 (by omega) hd99
        rw [if_pos (by rw [et]), if_pos L6, t1, bd2_s, if_pos et]
        exact ⟨σ2, rfl, t2, t3⟩
      · rw [if_neg (fun z => et ((nI_inj (by omega) (by omega)).mp z)), if_neg et]
        exact ⟨σ1, rfl, h1, Fs.rf⟩
    obtain ⟨σ2, t1, t2, t3⟩ := b78
    rw [t1, n4]
    clear t1 n4
    generalize nxV Λ v s d = x at n1 n2 n3 ⊢
    have h2 : MS (up σ2 163 L (nI x)) Λ s := ⟨t2.1.up (by decide), t2.2.1.upo (by decide), hΛ, hs⟩
    obtain ⟨σ3, y1, y2, y3⟩ := jm_goesBy h2 (by omega) (d := x) (by omega) n3
    have a1 : nI L + (1 : Int32) = nI (L + 1) := by rw [li_1, nI_add]
    have L61 : inb (nI (L + 1)) 6 = true := (inb_nI (by omega)).mpr (by omega)
    have hmul : r * (1 + gmC m) = (r - 1) * (1 + gmC m) + (1 + gmC m) := by
      rw [← Nat.succ_mul]; congr 1; omega
    have hm2 : (100 - (x + 1)) * (1 + gmC m) ≤ (r - 1) * (1 + gmC m) := Nat.mul_le_mul_right _ (by omega)
    -- the node goes on behind x
    have go : ∀ (k1 : Nat) (σ7 : Sg), k ≤ k1 + gmC m → LM σ7 Λ → MM σ7 162 (54 * L) Λ s → σ7 163 L = nI x → Fs (GL L) σ σ7 →
        (∀ p, smT Λ v m s (x + 1) = some p → ∃ σ', J_X8_isSummer_b24 k1 (nI v) (nI n) (nI L) σ7 = some (1, σ') ∧ Fs (GL L) σ σ' ∧ ∀ i, i < m + 1 → σ' 163 (L + i) = nI (p.getD i 0))
        ∧ (smT Λ v m s (x + 1) = none → ∃ k' σ', k + 1 ≤ k' + (1 + r * (1 + gmC m)) ∧ J_X8_isSummer_b24 k1 (nI v) (nI n) (nI L) σ7 = J_X8_isSummer_b24 k' (nI v) (nI n) (nI L + (-1)) σ' ∧ Fs (GL L) σ σ') := by
      intro k1 σ7 hk1 hL7 hM7 ht7 hG7
      obtain ⟨j1, j2⟩ := ih (100 - (x + 1)) (by omega) (x + 1) k1 σ7 (by omega) (by omega) hL7 hM7 (by rw [ht7, ← nI_add, ← li_1]; exact (Int32.add_sub_cancel _ _).symm)
      refine ⟨fun p hp => ?_, fun hp => ?_⟩
      · obtain ⟨σ', v1, v2, v3⟩ := j1 p hp
        exact ⟨σ', v1, hG7.tr v2, v3⟩
      · obtain ⟨k', σ', v1, v2, v3⟩ := j2 hp
        exact ⟨k', σ', by omega, v2, hG7.tr v3⟩
    have F3 : Fs (fun a j => Wt a j ∨ (a = 163 ∧ j = L)) σ σ3 := by
      refine Fs.tr (f1.mono fun _ _ z => Or.inl z) (Fs.tr (t3.mono fun _ _ z => Or.inl z.wt) (Fs.tr (Fs.up (P := fun a j => Wt a j ∨ (a = 163 ∧ j = L)) Fs.rf (Or.inr ⟨rfl, rfl⟩)) (y3.mono fun _ _ z => Or.inl z)))
    have tr3 : σ3 163 L = nI x := by
      rw [y3 163 L (fun z => by have := wt157 _ _ z; omega), up_s]
    have M3 : MM σ3 162 (54 * L) Λ s := hM.frs hΛ F3 fun j z1 z2 w => by
      rcases w with w | w
      · have := wt157 _ _ w; omega
      · omega
    have G3 : Fs (GL L) σ σ3 := F3.mono fun a j z => by
      rcases z with z | z
      · exact Or.inl z
      · exact Or.inr (Or.inr (Or.inl ⟨z.1, by omega⟩))
    unfold J_X8_isSummer_b128
    rw [if_neg (nne e100 (by omega) (by omega) (by omega)), jm_staying t2 hv, bd1_s, if_pos L6, nI_clamp (n := L) (by omega), y1, bd2_s, jm_staying y2 hv, bd1_s]
    unfold smM
    by_cases es : staN Λ (livS Λ s x) v = staN Λ s v
    · rw [if_pos (show nI (staN Λ (livS Λ s x) v) = nI (staN Λ s v) from by rw [es]), if_pos es, a1, show (54 : Int32) * nI (L + 1) = nI (54 * (L + 1)) from by rw [li_54, nI_mul]]
      obtain ⟨σ4, v1, v2, v3⟩ := jm_copyRow (A := 162) (B := 157) (o1 := 54 * (L + 1)) (o2 := 0) (by decide) (by decide) hΛ y2.2.1 (show 54 * (L + 1) + 54 ≤ 324 by omega) (by decide) (by omega) (by decide)
      rw [show J_X8_copies 162 (nI (54 * (L + 1))) 157 0 54 σ3 = _ from v1, bd2_s, if_neg (show ¬ (6 : Int32) ≤ nI (L + 1) from by rw [li_6, nI_leI (by omega) (by omega)]; omega), if_pos L61, nI_clamp (n := L + 1) (by omega)]
      have F4 : Fs (fun a j => Wt a j ∨ (a = 162 ∧ 54 * (L + 1) ≤ j) ∨ (a = 163 ∧ (j = L ∨ j = L + 1))) σ (up σ4 163 (L + 1) (-1)) := by
        refine Fs.up (P := fun a j => Wt a j ∨ (a = 162 ∧ 54 * (L + 1) ≤ j) ∨ (a = 163 ∧ (j = L ∨ j = L + 1))) ?_ (Or.inr (Or.inr ⟨rfl, Or.inr rfl⟩))
        refine Fs.tr (F3.mono fun a j z => ?_) (v3.mono fun a j z => Or.inr (Or.inl ⟨z.1, z.2.1⟩))
        rcases z with z | z
        · exact Or.inl z
        · exact Or.inr (Or.inr ⟨z.1, Or.inl z.2⟩)
      have tL : (up σ4 163 (L + 1) (-1)) 163 L = nI x := by
        rw [up_i (by omega), v3 163 L (fun z => by have := z.1; omega)]; exact tr3
      have M4 : MM (up σ4 163 (L + 1) (-1)) 162 (54 * L) Λ s := hM.frs hΛ F4 fun j z1 z2 w => by
        rcases w with w | w | w
        · have := wt157 _ _ w; omega
        · omega
        · omega
      have LM4 : LM (up σ4 163 (L + 1) (-1)) Λ := hLM.frs F4 fun a j z1 z2 z3 w => by
        rcases w with w | w | w
        · have := wt157 _ _ w; omega
        · omega
        · omega
      have G4 : Fs (GL L) σ (up σ4 163 (L + 1) (-1)) := F4.mono fun a j z => by
        rcases z with z | z | z
        · exact Or.inl z
        · exact Or.inr (Or.inl z)
        · exact Or.inr (Or.inr (Or.inl ⟨z.1, by omega⟩))
      obtain ⟨c1, c2⟩ := child (livS Λ s x) k (up σ4 163 (L + 1) (-1)) y2.2.2.2 (by rw [livS_D]; omega) (by omega) LM4 (v2.upo (by decide)) up_s
      have beta : (fun x1 x2 x3 σ => J_X8_isSummer_b24 k x1 x2 x3 σ) (nI v) (nI n) (nI (L + 1)) (up σ4 163 (L + 1) (-1)) = J_X8_isSummer_b24 k (nI v) (nI n) (nI (L + 1)) (up σ4 163 (L + 1) (-1)) := rfl
      rw [beta]
      cases q : smF Λ v m (livS Λ s x) with
      | some p =>
        obtain ⟨σ5, b1, b2, b3⟩ := c1 p q
        refine ⟨fun p' z => ?_, fun z => absurd z (by simp)⟩
        rw [← Option.some.inj z]
        refine ⟨σ5, b1, G4.tr (b2.mono fun _ _ z => z.up), fun i hi => ?_⟩
        cases i with
        | zero =>
          rw [Nat.add_zero, b2 163 L (fun w => by have := w.no; omega), tL]
          rfl
        | succ i =>
          rw [show L + (i + 1) = L + 1 + i by omega, b3 i (by omega)]
          rfl
      | none =>
        obtain ⟨k1, σ5, b1, b2, b3⟩ := c2 q
        rw [b2, show nI (L + 1) + (-1 : Int32) = nI L from by rw [← a1, Int32.add_assoc, show (1 : Int32) + -1 = 0 from by decide, ad0]]
        exact go k1 σ5 b1 (LM4.frs b3 fun a j z1 z2 z3 w => by have := w.no; omega) (M4.frs hΛ b3 fun j z1 z2 w => by have := w.no; omega) (by rw [b3 163 L (fun w => by have := w.no; omega)]; exact tL) (G4.tr (b3.mono fun _ _ z => z.up))
    · have s1 := staN_le (Λ := Λ) (s := s) (v := v)
      have s2 := staN_le (Λ := Λ) (s := livS Λ s x) (v := v)
      rw [if_neg (fun z => es ((nI_inj (by omega) (by omega)).mp z)), if_neg es]
      exact go k σ3 (by omega) y2.1 M3 tr3 G3
end SUMMER3
