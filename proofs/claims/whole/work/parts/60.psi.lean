/-! the system between two calls -/
def Wk (a j : Nat) : Prop := (19 ≤ a ∧ a ≤ 23) ∨ (80 ≤ a ∧ a ≤ 140) ∨ 151 ≤ a ∨ (a = 141 ∧ 18 ≤ j) ∨ (6 ≤ a ∧ a ≤ 13) ∨ (a = 4 ∧ j ≠ 3)
def PsiL (σ : Sg) (Λ : LT) : Prop := LC σ 1 Λ ∧ LM σ Λ ∧ LOK Λ
def PsiN (D : Nat) (σ : Sg) (Λ : LT) (s : ST) : Prop := MC σ 14 Λ s ∧ MM σ 146 0 Λ s ∧ SOK Λ s ∧ sD s ≤ D
def PsiP (D : Nat) (σ : Sg) (Λ : LT) (n o : Nat) (P : Nat → ST) (T : Nat → Nat) : Prop := n ≤ 8 ∧ o < 8 ∧ σ 24 3 = nI n ∧ σ 24 4 = nI o ∧ σ 141 11 = nI n ∧ ∀ i, i < n → MC σ (pm 26 ((o + i) % 8)) Λ (P i) ∧ MM σ 147 (54 * i) Λ (P i) ∧ SOK Λ (P i) ∧ sD (P i) ≤ D ∧ lostI Λ (P i) = 0 ∧ σ 25 ((o + i) % 8) = nI (T i) ∧ σ 148 i = nI (T i) ∧ T i < 100
def PsiK (D : Nat) (σ : Sg) (Λ : LT) (q : Nat) (K : Nat → ST) : Prop := q ≤ 2 ∧ σ 0 8 = nI q ∧ σ 141 14 = nI q ∧ ∀ i, i < q → MC σ (pm 68 i) Λ (K i) ∧ MM σ 149 (54 * i) Λ (K i) ∧ SOK Λ (K i) ∧ sD (K i) ≤ D
def PsiT (σ : Sg) (t : Nat) : Prop := t ≤ 200 ∧ σ 4 3 = nI t ∧ σ 141 17 = nI t ∧ ∀ i, i < t → ∃ k, 32 ≤ k ∧ k ≤ 126 ∧ σ 5 i = nI k ∧ σ 150 i = nI k
def Psi (D : Nat) (σ : Sg) : Prop := ∃ Λ s n o P T q K t, PsiL σ Λ ∧ PsiN D σ Λ s ∧ PsiP D σ Λ n o P T ∧ PsiK D σ Λ q K ∧ PsiT σ t
section PSI
variable {σ σ' : Sg} {c : Nat} {Λ : LT} {s : ST} {D : Nat}
theorem LC.frs {l : Nat} {P : Nat → Nat → Prop} (h : LC σ l Λ) (f : Fs P σ σ') (hP : ∀ a j, l ≤ a → a ≤ l + 2 → ¬ P a j) : LC σ' l Λ :=
  LC.fr h (funext fun j => f _ _ (hP _ _ (by omega) (by omega))) (funext fun j => f _ _ (hP _ _ (by omega) (by omega))) (funext fun j => f _ _ (hP _ _ (by omega) (by omega)))
theorem MC.frs {P : Nat → Nat → Prop} (h : MC σ c Λ s) (f : Fs P σ σ') (hP : ∀ a j, c ≤ a → a ≤ c + 4 → ¬ P a j) : MC σ' c Λ s :=
  MC.fr h (funext fun j => f _ _ (hP _ _ (by omega) (by omega))) (funext fun j => f _ _ (hP _ _ (by omega) (by omega))) (funext fun j => f _ _ (hP _ _ (by omega) (by omega))) (funext fun j => f _ _ (hP _ _ (by omega) (by omega))) (funext fun j => f _ _ (hP _ _ (by omega) (by omega)))
theorem LM.frs {P : Nat → Nat → Prop} (h : LM σ Λ) (f : Fs P σ σ') (hP : ∀ a j, 141 ≤ a → a ≤ 145 → (a = 141 → j ≤ 8) → ¬ P a j) : LM σ' Λ := by
  obtain ⟨l0, l1, l2, l3, l4, l5, l6, l7, l8, l9⟩ := h
  refine ⟨?_, ?_, ?_, ?_, ?_, ?_, fun x hx => ?_, fun x hx => ?_, fun x hx => ?_, fun x hx => ?_⟩
  · rw [f _ _ (hP _ _ (by omega) (by omega) (by omega))]; exact l0
  · rw [f _ _ (hP _ _ (by omega) (by omega) (by omega))]; exact l1
  · rw [f _ _ (hP _ _ (by omega) (by omega) (by omega))]; exact l2
  · rw [f _ _ (hP _ _ (by omega) (by omega) (by omega))]; exact l3
  · rw [f _ _ (hP _ _ (by omega) (by omega) (by omega))]; exact l4
  · rw [f _ _ (hP _ _ (by omega) (by omega) (by omega))]; exact l5
  · rw [f _ _ (hP _ _ (by omega) (by omega) (by omega))]; exact l6 x hx
  · rw [f _ _ (hP _ _ (by omega) (by omega) (by omega))]; exact l7 x hx
  · rw [f _ _ (hP _ _ (by omega) (by omega) (by omega))]; exact l8 x hx
  · rw [f _ _ (hP _ _ (by omega) (by omega) (by omega))]; exact l9 x hx
theorem MM.frs {A o : Nat} {P : Nat → Nat → Prop} (h : MM σ A o Λ s) (hΛ : LOK Λ) (f : Fs P σ σ') (hP : ∀ j, o ≤ j → j < o + 54 → ¬ P A j) : MM σ' A o Λ s := by
  have h36 := hΛ.sq.2.1
  have h8 := hΛ.2.2.1.2
  obtain ⟨m0, m1, m2, m3, m4⟩ := h
  refine ⟨?_, fun x hx => ?_, fun b hb => ?_, fun b hb => ?_, ?_⟩
  · rw [f _ _ (hP _ (by omega) (by omega))]; exact m0
  · rw [f _ _ (hP _ (by omega) (by omega))]; exact m1 x hx
  · rw [f _ _ (hP _ (by omega) (by omega))]; exact m2 b hb
  · rw [f _ _ (hP _ (by omega) (by omega))]; exact m3 b hb
  · rw [f _ _ (hP _ (by omega) (by omega))]; exact m4
theorem pm_lo (p i : Nat) : p + 1 ≤ pm p i := by
  unfold pm
  split <;> omega
theorem pm_hi (p i : Nat) : pm p i ≤ p + 2 + 5 * i := by
  unfold pm
  split <;> omega
theorem pm_dis (p : Nat) {i k : Nat} (h : i ≠ k) : pm p i + 4 < pm p k ∨ pm p k + 4 < pm p i := by
  unfold pm
  split <;> split <;> omega
theorem wk_no {a j : Nat} (h : Wk a j) : (19 ≤ a ∧ a ≤ 23) ∨ (80 ≤ a ∧ a ≤ 140) ∨ 151 ≤ a ∨ (a = 141 ∧ 18 ≤ j) ∨ (6 ≤ a ∧ a ≤ 13) ∨ (a = 4 ∧ j ≠ 3) := h
theorem PsiL.fr (h : PsiL σ Λ) (f : Fs Wk σ σ') : PsiL σ' Λ :=
  ⟨h.1.frs f fun a j _ _ z => by have := wk_no z; omega, h.2.1.frs f fun a j _ _ _ z => by have := wk_no z; omega, h.2.2⟩
theorem PsiN.fr (h : PsiN D σ Λ s) (hΛ : LOK Λ) (f : Fs Wk σ σ') : PsiN D σ' Λ s :=
  ⟨h.1.frs f fun a j _ _ z => by have := wk_no z; omega, h.2.1.frs hΛ f fun j _ _ z => by have := wk_no z; omega, h.2.2⟩
theorem PsiP.fr {n o : Nat} {P : Nat → ST} {T : Nat → Nat} (h : PsiP D σ Λ n o P T) (hΛ : LOK Λ) (f : Fs Wk σ σ') : PsiP D σ' Λ n o P T := by
  obtain ⟨h1, h2, h3, h4, h5, h6⟩ := h
  refine ⟨h1, h2, ?_, ?_, ?_, fun i hi => ?_⟩
  · rw [f _ _ (fun z => by have := wk_no z; omega)]; exact h3
  · rw [f _ _ (fun z => by have := wk_no z; omega)]; exact h4
  · rw [f _ _ (fun z => by have := wk_no z; omega)]; exact h5
  · obtain ⟨p1, p2, p3, p4, p5, p6, p7, p8⟩ := h6 i hi
    have hm : (o + i) % 8 < 8 := Nat.mod_lt _ (by decide)
    generalize (o + i) % 8 = w at hm p1 p6 ⊢
    have q1 := pm_lo 26 w
    have q2 := pm_hi 26 w
    refine ⟨p1.frs f fun a j _ _ z => by have := wk_no z; omega, p2.frs hΛ f fun j _ _ z => by have := wk_no z; omega, p3, p4, p5, ?_, ?_, p8⟩
    · rw [f _ _ (fun z => by have := wk_no z; omega)]; exact p6
    · rw [f _ _ (fun z => by have := wk_no z; omega)]; exact p7
theorem PsiK.fr {q : Nat} {K : Nat → ST} (h : PsiK D σ Λ q K) (hΛ : LOK Λ) (f : Fs Wk σ σ') : PsiK D σ' Λ q K := by
  obtain ⟨h1, h2, h3, h4⟩ := h
  refine ⟨h1, ?_, ?_, fun i hi => ?_⟩
  · rw [f _ _ (fun z => by have := wk_no z; omega)]; exact h2
  · rw [f _ _ (fun z => by have := wk_no z; omega)]; exact h3
  · obtain ⟨p1, p2, p3, p4⟩ := h4 i hi
    have q1 := pm_lo 68 i
    have q2 := pm_hi 68 i
    have q3 : pm 68 i ≤ 75 := by unfold pm; split <;> omega
    exact ⟨p1.frs f fun a j _ _ z => by have := wk_no z; omega, p2.frs hΛ f fun j _ _ z => by have := wk_no z; omega, p3, p4⟩
theorem PsiT.fr {t : Nat} (h : PsiT σ t) (f : Fs Wk σ σ') : PsiT σ' t := by
  obtain ⟨h1, h2, h3, h4⟩ := h
  refine ⟨h1, ?_, ?_, fun i hi => ?_⟩
  · rw [f _ _ (fun z => by have := wk_no z; omega)]; exact h2
  · rw [f _ _ (fun z => by have := wk_no z; omega)]; exact h3
  · rw [f _ _ (fun z => by have := wk_no z; omega), f _ _ (fun z => by have := wk_no z; omega)]; exact h4 i hi
theorem Psi.fr (h : Psi D σ) (f : Fs Wk σ σ') : Psi D σ' := by
  obtain ⟨Λ, s, n, o, P, T, q, K, t, h1, h2, h3, h4, h5⟩ := h
  exact ⟨Λ, s, n, o, P, T, q, K, t, h1.fr f, h2.fr h1.2.2 f, h3.fr h1.2.2 f, h4.fr h1.2.2 f, h5.fr f⟩
theorem PsiN.le {D' : Nat} (hD : D ≤ D') (h : PsiN D σ Λ s) : PsiN D' σ Λ s := ⟨h.1, h.2.1, h.2.2.1, Nat.le_trans h.2.2.2 hD⟩
theorem PsiP.le {D' n o : Nat} {P : Nat → ST} {T : Nat → Nat} (hD : D ≤ D') (h : PsiP D σ Λ n o P T) : PsiP D' σ Λ n o P T := by
  obtain ⟨h1, h2, h3, h4, h5, h6⟩ := h
  refine ⟨h1, h2, h3, h4, h5, fun i hi => ?_⟩
  obtain ⟨p1, p2, p3, p4, p5⟩ := h6 i hi
  exact ⟨p1, p2, p3, Nat.le_trans p4 hD, p5⟩
theorem PsiK.le {D' q : Nat} {K : Nat → ST} (hD : D ≤ D') (h : PsiK D σ Λ q K) : PsiK D' σ Λ q K := by
  obtain ⟨h1, h2, h3, h4⟩ := h
  refine ⟨h1, h2, h3, fun i hi => ?_⟩
  obtain ⟨p1, p2, p3, p4⟩ := h4 i hi
  exact ⟨p1, p2, p3, Nat.le_trans p4 hD⟩
theorem Psi.le {D' : Nat} (hD : D ≤ D') (h : Psi D σ) : Psi D' σ := by
  obtain ⟨Λ, s, n, o, P, T, q, K, t, h1, h2, h3, h4, h5⟩ := h
  exact ⟨Λ, s, n, o, P, T, q, K, t, h1, h2.le hD, h3.le hD, h4.le hD, h5⟩
/-! copies -/
theorem jc_copy {d : Nat} (h : MC σ d Λ s) (hd : d + 4 < c ∨ c + 4 < d) : ∃ σ', J_X2_copyFrom c d σ = some ((), σ') ∧ MC σ' c Λ s ∧ Fr (fun a => c ≤ a ∧ a ≤ c + 4) σ σ' := by
  obtain ⟨m0, m1, m2, m3, m4⟩ := h
  refine ⟨_, rfl, ⟨?_, fun x hx => ?_, fun x hx => ?_, fun x hx => ?_, fun x hx => ?_⟩, fun a ha => ?_⟩
  · rw [up_s, upc_n (by omega), upc_n (by omega), upc_n (by omega), upc_n (by omega)]; exact m0
  · rw [up_n (by omega), upc_n (by omega), upc_n (by omega), upc_n (by omega), upc_s]; exact m1 x hx
  · rw [up_n (by omega), upc_n (by omega), upc_n (by omega), upc_s, upc_n (by omega)]; exact m2 x hx
  · rw [up_n (by omega), upc_n (by omega), upc_s, upc_n (by omega), upc_n (by omega)]; exact m3 x hx
  · rw [up_n (by omega), upc_s, upc_n (by omega), upc_n (by omega), upc_n (by omega)]; exact m4 x hx
  · have ha' : ¬ (c ≤ a ∧ a ≤ c + 4) := ha
    funext j
    rw [up_n (by omega), upc_n (by omega), upc_n (by omega), upc_n (by omega), upc_n (by omega)]
theorem Fr.cells {σ'' : Sg} (f : Fr (fun a => c ≤ a ∧ a ≤ c + 4) σ σ'') : Fs (fun a _ => c ≤ a ∧ a ≤ c + 4) σ σ'' := f.fs fun _ _ z => z
theorem jm_copyLoop {A B o1 o2 n : Nat} (hAB : A ≠ B) (ha : o1 + n ≤ aln A) (hb : o2 + n ≤ aln B) (ha2 : o1 + n < 2 ^ 20) (hb2 : o2 + n < 2 ^ 20) : ∀ (k i j : Nat) (σ : Sg), i + k = n → k < j → ∃ σ', J_X8_copies_b3 j A (nI o1) B (nI o2) (nI n) (nI i) σ = some ((), σ') ∧ (∀ m, i ≤ m → m < n → σ' A (o1 + m) = σ B (o2 + m)) ∧ Fs (fun a j => a = A ∧ o1 + i ≤ j ∧ j < o1 + n) σ σ' := by
  intro k
  induction k with
  | zero =>
    intro i j σ hi hj
    obtain ⟨j, rfl⟩ : ∃ i, j = i + 1 := ⟨j - 1, by omega⟩
    refine ⟨σ, ?_, fun m h1 h2 => by omega, Fs.rf⟩
    rw [J_X8_copies_b3, if_pos ((nI_leI (by omega) (by omega)).mpr (by omega))]
  | succ k ih =>
    intro i j σ hi hj
    obtain ⟨j, rfl⟩ : ∃ i, j = i + 1 := ⟨j - 1, by omega⟩
    rw [J_X8_copies_b3, if_neg (fun z => by have := (nI_leI (by omega) (by omega)).mp z; omega), nI_add, nI_add, if_pos ((inb_nI (by omega)).mpr (by omega)), if_pos ((inb_nI (by omega)).mpr (by omega)), nI_clamp (n := o1 + i) (by omega), nI_clamp (n := o2 + i) (by omega), li_1, nI_add]
    obtain ⟨σ', r1, r2, r3⟩ := ih (i + 1) j (up σ A (o1 + i) (σ B (o2 + i))) (by omega) (by omega)
    refine ⟨σ', r1, fun m h1 h2 => ?_, Fs.tr (Fs.up (P := fun a j => a = A ∧ o1 + i ≤ j ∧ j < o1 + n) Fs.rf ⟨rfl, by omega, by omega⟩) (r3.mono fun a j z => ⟨z.1, by omega, z.2.2⟩)⟩
    by_cases e : m = i
    · rw [e, r3 A (o1 + i) (fun z => by have := z.2.1; omega), up_s]
    · rw [r2 m (by omega) h2, up_n (fun z => hAB z.symm)]
theorem jm_copies {A B o1 o2 n : Nat} (hAB : A ≠ B) (ha : o1 + n ≤ aln A) (hb : o2 + n ≤ aln B) (ha2 : o1 + n < 2 ^ 20) (hb2 : o2 + n < 2 ^ 20) (hn : n < 900) : ∃ σ', J_X8_copies A (nI o1) B (nI o2) (nI n) σ = some ((), σ') ∧ (∀ m, m < n → σ' A (o1 + m) = σ B (o2 + m)) ∧ Fs (fun a j => a = A ∧ o1 ≤ j ∧ j < o1 + n) σ σ' := by
  obtain ⟨σ', r1, r2, r3⟩ := jm_copyLoop hAB ha hb ha2 hb2 n 0 FU σ (by omega) (by rw [FU_eq]; omega)
  exact ⟨σ', r1, fun m h => r2 m (by omega) h, r3.mono fun a j z => ⟨z.1, by omega, z.2.2⟩⟩
theorem MM.copy {A B o1 o2 : Nat} (hΛ : LOK Λ) (h : MM σ B o2 Λ s) (r : ∀ m, m < 54 → σ' A (o1 + m) = σ B (o2 + m)) : MM σ' A o1 Λ s := by
  have h36 := hΛ.sq.2.1
  have h8 := hΛ.2.2.1.2
  obtain ⟨m0, m1, m2, m3, m4⟩ := h
  refine ⟨?_, fun x hx => ?_, fun b hb => ?_, fun b hb => ?_, ?_⟩
  · have := r 0 (by omega); rw [Nat.add_zero, Nat.add_zero] at this; rw [this]; exact m0
  · have := r (1 + x) (by omega); rw [← Nat.add_assoc, ← Nat.add_assoc] at this; rw [this]; exact m1 x hx
  · have := r (37 + b) (by omega); rw [← Nat.add_assoc, ← Nat.add_assoc] at this; rw [this]; exact m2 b hb
  · have := r (45 + b) (by omega); rw [← Nat.add_assoc, ← Nat.add_assoc] at this; rw [this]; exact m3 b hb
  · rw [r 53 (by omega)]; exact m4
/-- a row of 54 is copied -/
theorem jm_copyRow {A B o1 o2 : Nat} (hAB : A ≠ B) (hA : 145 < A) (hΛ : LOK Λ) (h : MM σ B o2 Λ s) (ha : o1 + 54 ≤ aln A) (hb : o2 + 54 ≤ aln B) (ha2 : o1 < 10000) (hb2 : o2 < 10000) : ∃ σ', J_X8_copies A (nI o1) B (nI o2) 54 σ = some ((), σ') ∧ MM σ' A o1 Λ s ∧ Fs (fun a j => a = A ∧ o1 ≤ j ∧ j < o1 + 54) σ σ' := by
  rw [li_54]
  obtain ⟨σ', r1, r2, r3⟩ := jm_copies (σ := σ) (n := 54) hAB ha hb (by omega) (by omega) (by omega)
  exact ⟨σ', r1, MM.copy hΛ h r2, r3⟩
theorem jm_asItIs (hL : LM σ Λ) (hΛ : LOK Λ) (hs : SOK Λ s) (h : MM σ 146 0 Λ s) : ∃ σ', J_X8_asItIs σ = some ((), σ') ∧ MS σ' Λ s ∧ Fs Wt σ σ' := by
  obtain ⟨σ', r1, r2, r3⟩ := jm_copyRow (A := 157) (B := 146) (o1 := 0) (o2 := 0) (by decide) (by decide) hΛ h (by decide) (by decide) (by decide) (by decide)
  refine ⟨σ', ?_, ⟨hL.frs r3 fun a j _ _ _ z => by have := z.1; omega, r2, hΛ, hs⟩, r3.mono fun a j z => Or.inl z.1⟩
  unfold J_X8_asItIs
  rw [li_0, r1, bd2_s]
theorem Wt.wk {a j : Nat} (h : Wt a j) : Wk a j := by
  rcases h with z | ⟨z1, z2⟩
  · exact Or.inr (Or.inr (Or.inl (by omega)))
  · exact Or.inr (Or.inr (Or.inr (Or.inl ⟨z1, by omega⟩)))
theorem Fs.wk (f : Fs Wt σ σ') : Fs Wk σ σ' := f.mono fun _ _ z => z.wk
end PSI
