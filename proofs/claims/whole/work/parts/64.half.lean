/-! the two halves of the invariant's parts -/
def PcP (σ : Sg) (Λ : LT) (n o : Nat) (P : Nat → ST) (T : Nat → Nat) : Prop := σ 24 3 = nI n ∧ σ 24 4 = nI o ∧ ∀ i, i < n → MC σ (pm 26 ((o + i) % 8)) Λ (P i) ∧ σ 25 ((o + i) % 8) = nI (T i)
def PmP (σ : Sg) (Λ : LT) (n : Nat) (P : Nat → ST) (T : Nat → Nat) : Prop := σ 141 11 = nI n ∧ ∀ i, i < n → MM σ 147 (54 * i) Λ (P i) ∧ σ 148 i = nI (T i)
def PgP (D : Nat) (Λ : LT) (n o : Nat) (P : Nat → ST) (T : Nat → Nat) : Prop := n ≤ 8 ∧ o < 8 ∧ ∀ i, i < n → SOK Λ (P i) ∧ sD (P i) ≤ D ∧ lostI Λ (P i) = 0 ∧ T i < 100
def PcK (σ : Sg) (Λ : LT) (q : Nat) (K : Nat → ST) : Prop := σ 0 8 = nI q ∧ ∀ i, i < q → MC σ (pm 68 i) Λ (K i)
def PmK (σ : Sg) (Λ : LT) (q : Nat) (K : Nat → ST) : Prop := σ 141 14 = nI q ∧ ∀ i, i < q → MM σ 149 (54 * i) Λ (K i)
def PgK (D : Nat) (Λ : LT) (q : Nat) (K : Nat → ST) : Prop := q ≤ 2 ∧ ∀ i, i < q → SOK Λ (K i) ∧ sD (K i) ≤ D
section HALF
variable {σ σ' : Sg} {Λ : LT} {s : ST} {D n o q : Nat} {P K : Nat → ST} {T : Nat → Nat}
theorem PsiP.c (h : PsiP D σ Λ n o P T) : PcP σ Λ n o P T := ⟨h.2.2.1, h.2.2.2.1, fun i hi => ⟨(h.2.2.2.2.2 i hi).1, (h.2.2.2.2.2 i hi).2.2.2.2.2.1⟩⟩
theorem PsiP.m (h : PsiP D σ Λ n o P T) : PmP σ Λ n P T := ⟨h.2.2.2.2.1, fun i hi => ⟨(h.2.2.2.2.2 i hi).2.1, (h.2.2.2.2.2 i hi).2.2.2.2.2.2.1⟩⟩
theorem PsiP.g (h : PsiP D σ Λ n o P T) : PgP D Λ n o P T := ⟨h.1, h.2.1, fun i hi => ⟨(h.2.2.2.2.2 i hi).2.2.1, (h.2.2.2.2.2 i hi).2.2.2.1, (h.2.2.2.2.2 i hi).2.2.2.2.1, (h.2.2.2.2.2 i hi).2.2.2.2.2.2.2⟩⟩
theorem PsiP.of (g : PgP D Λ n o P T) (c : PcP σ Λ n o P T) (m : PmP σ Λ n P T) : PsiP D σ Λ n o P T :=
  ⟨g.1, g.2.1, c.1, c.2.1, m.1, fun i hi => ⟨(c.2.2 i hi).1, (m.2 i hi).1, (g.2.2 i hi).1, (g.2.2 i hi).2.1, (g.2.2 i hi).2.2.1, (c.2.2 i hi).2, (m.2 i hi).2, (g.2.2 i hi).2.2.2⟩⟩
theorem PsiK.c (h : PsiK D σ Λ q K) : PcK σ Λ q K := ⟨h.2.1, fun i hi => (h.2.2.2 i hi).1⟩
theorem PsiK.m (h : PsiK D σ Λ q K) : PmK σ Λ q K := ⟨h.2.2.1, fun i hi => (h.2.2.2 i hi).2.1⟩
theorem PsiK.g (h : PsiK D σ Λ q K) : PgK D Λ q K := ⟨h.1, fun i hi => ⟨(h.2.2.2 i hi).2.2.1, (h.2.2.2 i hi).2.2.2⟩⟩
theorem PsiK.of (g : PgK D Λ q K) (c : PcK σ Λ q K) (m : PmK σ Λ q K) : PsiK D σ Λ q K :=
  ⟨g.1, c.1, m.1, fun i hi => ⟨c.2 i hi, m.2 i hi, (g.2 i hi).1, (g.2 i hi).2⟩⟩
theorem pm26 {w : Nat} (h : w < 8) : 27 ≤ pm 26 w ∧ pm 26 w ≤ 63 := by unfold pm; split <;> omega
theorem pm68 {w : Nat} (h : w < 2) : 69 ≤ pm 68 w ∧ pm 68 w ≤ 75 := by unfold pm; split <;> omega
variable {R : Nat → Nat → Prop}
theorem PcP.fr (h : PcP σ Λ n o P T) (f : Fs R σ σ') (hR : ∀ a j, 24 ≤ a → a ≤ 67 → ¬ R a j) : PcP σ' Λ n o P T := by
  refine ⟨?_, ?_, fun i hi => ?_⟩
  · rw [f _ _ (hR _ _ (by omega) (by omega))]; exact h.1
  · rw [f _ _ (hR _ _ (by omega) (by omega))]; exact h.2.1
  · have hm := pm26 (show (o + i) % 8 < 8 from Nat.mod_lt _ (by decide))
    refine ⟨(h.2.2 i hi).1.frs f fun a j z1 z2 => hR _ _ (by omega) (by omega), ?_⟩
    rw [f _ _ (hR _ _ (by omega) (by omega))]; exact (h.2.2 i hi).2
theorem PmP.fr (hΛ : LOK Λ) (hn : n ≤ 8) (h : PmP σ Λ n P T) (f : Fs R σ σ') (hR : ∀ a j, ((a = 141 ∧ j = 11) ∨ a = 147 ∨ a = 148) → ¬ R a j) : PmP σ' Λ n P T := by
  refine ⟨?_, fun i hi => ⟨(h.2 i hi).1.frs hΛ f fun j z1 z2 => hR _ _ (by omega), ?_⟩⟩
  · rw [f _ _ (hR _ _ (by omega))]; exact h.1
  · rw [f _ _ (hR _ _ (by omega))]; exact (h.2 i hi).2
theorem PcK.fr (hq : q ≤ 2) (h : PcK σ Λ q K) (f : Fs R σ σ') (hR : ∀ a j, ((a = 0 ∧ j = 8) ∨ (69 ≤ a ∧ a ≤ 79)) → ¬ R a j) : PcK σ' Λ q K := by
  refine ⟨?_, fun i hi => ?_⟩
  · rw [f _ _ (hR _ _ (by omega))]; exact h.1
  · have hm := pm68 (show i < 2 by omega)
    exact (h.2 i hi).frs f fun a j z1 z2 => hR _ _ (by omega)
theorem PmK.fr (hΛ : LOK Λ) (h : PmK σ Λ q K) (f : Fs R σ σ') (hR : ∀ a j, ((a = 141 ∧ j = 14) ∨ a = 149) → ¬ R a j) : PmK σ' Λ q K := by
  refine ⟨?_, fun i hi => (h.2 i hi).frs hΛ f fun j z1 z2 => hR _ _ (by omega)⟩
  rw [f _ _ (hR _ _ (by omega))]; exact h.1
theorem MC.upo {c a k : Nat} {v : Int32} (h : MC σ c Λ s) (ha : a < c ∨ c + 4 < a) : MC (up σ a k v) c Λ s :=
  MC.fr h (up_na (by omega)) (up_na (by omega)) (up_na (by omega)) (up_na (by omega)) (up_na (by omega))
theorem MM.upo {A o' a k : Nat} {v : Int32} (h : MM σ A o' Λ s) (ha : A ≠ a) : MM (up σ a k v) A o' Λ s := MM.fr h (up_na ha)
/-! keep, back, undo: the class -/
theorem j4_get {p i : Nat} (h : i < pln p) (h2 : pln p < 100) : J_X4_get p (nI i) σ = some (pm p i) := by
  unfold J_X4_get
  rw [if_neg (nI_nlt0 (by omega)), if_neg (show ¬ Int32.ofNat (pln p) ≤ nI i from fun z => by have := (nI_leI (a := pln p) (b := i) (by omega) (by omega)).mp z; omega), if_pos ((inb_nI (by omega)).mpr h), nI_clamp (by omega)]
theorem j3_slot {o i : Nat} (ho : σ 24 4 = nI o) (h1 : o < 8) (h2 : i ≤ 8) : J_X3_slot (nI i) σ = some (nI ((o + i) % 8)) := by
  have x8 : ∀ m, m < 17 → 0 ≤ (nI m ^^^ (8 : Int32)) := by decide +kernel
  unfold J_X3_slot J_JM_floorMod
  rw [ho, nI_add, if_neg (by decide), if_pos (x8 _ (by omega)), li_8, rmI_nI (by omega) (by omega), bd1_s]
theorem j3_before {o i : Nat} (ho : σ 24 4 = nI o) (h1 : o < 8) (h2 : i ≤ 8) : J_X3_before (nI i) σ = some (pm 26 ((o + i) % 8)) := by
  have hm : (o + i) % 8 < 8 := Nat.mod_lt _ (by decide)
  unfold J_X3_before
  rw [j3_slot ho h1 h2, bd1_s, j4_get hm (by decide), bd1_s]
theorem jc_keep (hq : q < 2) (hN : MC σ 14 Λ s) (hK : PcK σ Λ q K) : ∃ σ1, J_X7_keep σ = some (nI (q + 1), σ1) ∧ PcK σ1 Λ (q + 1) (fun i => if i = q then s else K i) ∧ Fs (fun a j => (69 ≤ a ∧ a ≤ 79) ∨ (a = 0 ∧ j = 8)) σ σ1 := by
  have ph := pm68 hq
  obtain ⟨σ1, r1, r2, r3⟩ := jc_copy (c := pm 68 q) (d := 14) hN (by omega)
  have u08 : σ1 0 8 = nI q := by rw [r3 0 (by omega)]; exact hK.1
  refine ⟨up σ1 0 8 (nI (q + 1)), ?_, ⟨up_s, fun i hi => ?_⟩, Fs.up (P := fun a j => (69 ≤ a ∧ a ≤ 79) ∨ (a = 0 ∧ j = 8)) (r3.fs fun a j z => by omega) (Or.inr ⟨rfl, rfl⟩)⟩
  · unfold J_X7_keep
    rw [hK.1, if_pos (show nI q < (2 : Int32) from by rw [li_2, nI_ltI (by omega) (by omega)]; omega), j4_get hq (by decide), bd1_s, r1, bd2_s, u08, up_s, show nI q + (1 : Int32) = nI (q + 1) from by rw [li_1, nI_add]]
  · show MC _ _ Λ (if i = q then s else K i)
    by_cases ei : i = q
    · rw [if_pos ei, ei]; exact r2.upo (by omega)
    · rw [if_neg ei]
      have d := pm_dis 68 ei
      have ph2 := pm68 (show i < 2 by omega)
      exact ((hK.2 i (by omega)).frs r3.cells fun a j z1 z2 z3 => by omega).upo (by omega)
theorem jm_keep (hΛ : LOK Λ) (hq : q < 2) (hN : MM σ 146 0 Λ s) (hK : PmK σ Λ q K) : ∃ σ1, J_X8_keep σ = some (nI (q + 1), σ1) ∧ PmK σ1 Λ (q + 1) (fun i => if i = q then s else K i) ∧ Fs (fun a j => a = 149 ∨ (a = 141 ∧ j = 14)) σ σ1 := by
  obtain ⟨σ2, t1, t2, t3⟩ := jm_copyRow (A := 149) (B := 146) (o1 := 54 * q) (o2 := 0) (by decide) (by decide) hΛ hN (show 54 * q + 54 ≤ 108 by omega) (by decide) (by omega) (by decide)
  have v14 : σ2 141 14 = nI q := by rw [t3 141 14 (fun z => by have := z.1; omega)]; exact hK.1
  refine ⟨up σ2 141 14 (nI (q + 1)), ?_, ⟨up_s, fun i hi => ?_⟩, Fs.up (P := fun a j => a = 149 ∨ (a = 141 ∧ j = 14)) (t3.mono fun a j z => Or.inl z.1) (Or.inr ⟨rfl, rfl⟩)⟩
  · unfold J_X8_keep
    rw [hK.1, if_neg (nne li_2 (by omega) (by omega) (by omega)), show (54 : Int32) * nI q = nI (54 * q) from by rw [li_54, nI_mul], li_0, t1, bd2_s, v14, up_s, show nI q + (1 : Int32) = nI (q + 1) from by rw [li_1, nI_add]]
  · show MM _ _ _ Λ (if i = q then s else K i)
    by_cases ei : i = q
    · rw [if_pos ei, ei]; exact t2.upo (by decide)
    · rw [if_neg ei]
      exact ((hK.2 i (by omega)).frs hΛ t3 fun j z1 z2 z3 => by have := z3.2; omega).upo (by decide)
theorem jc_back (hq : q < 2) (hK : PcK σ Λ (q + 1) K) : ∃ σ1, J_X7_back σ = some (nI q, σ1) ∧ PcK σ1 Λ q K ∧ MC σ1 14 Λ (K q) ∧ σ1 24 3 = nI 0 ∧ Fs (fun a j => (14 ≤ a ∧ a ≤ 18) ∨ (a = 0 ∧ j = 8) ∨ (a = 24 ∧ j = 3)) σ σ1 := by
  have ph := pm68 hq
  have m0 : MC (up σ 0 8 (nI q)) (pm 68 q) Λ (K q) := (hK.2 q (by omega)).upo (by omega)
  obtain ⟨σ1, r1, r2, r3⟩ := jc_copy (c := 14) (d := pm 68 q) m0 (by omega)
  have u08 : σ1 0 8 = nI q := by rw [r3 0 (by omega)]; exact up_s
  refine ⟨up σ1 24 3 0, ?_, ⟨?_, fun i hi => ?_⟩, r2.upo (by omega), up_s, Fs.up (P := fun a j => (14 ≤ a ∧ a ≤ 18) ∨ (a = 0 ∧ j = 8) ∨ (a = 24 ∧ j = 3)) ((Fs.up (P := fun a j => (14 ≤ a ∧ a ≤ 18) ∨ (a = 0 ∧ j = 8) ∨ (a = 24 ∧ j = 3)) Fs.rf (Or.inr (Or.inl ⟨rfl, rfl⟩))).tr (r3.fs fun a j z => Or.inl z)) (Or.inr (Or.inr ⟨rfl, rfl⟩))⟩
  · unfold J_X7_back
    rw [hK.1, if_pos (show (1 : Int32) ≤ nI (q + 1) from by rw [li_1, nI_leI (by omega) (by omega)]; omega), show nI (q + 1) - (1 : Int32) = nI q from by rw [li_1, nI_subI (by omega)]; rfl, up_s, j4_get hq (by decide), bd1_s, r1, bd2_s, up_n (by decide), u08]
  · rw [up_n (by decide)]; exact u08
  · have ph2 := pm68 (show i < 2 by omega)
    exact (((hK.2 i (by omega)).upo (a := 0) (by omega)).frs r3.cells fun a j z1 z2 z3 => by omega).upo (by omega)
theorem jm_back (hΛ : LOK Λ) (hq : q < 2) (hK : PmK σ Λ (q + 1) K) : ∃ σ1, J_X8_back σ = some (nI q, σ1) ∧ PmK σ1 Λ q K ∧ MM σ1 146 0 Λ (K q) ∧ σ1 141 11 = nI 0 ∧ Fs (fun a j => a = 146 ∨ (a = 141 ∧ (j = 14 ∨ j = 11))) σ σ1 := by
  have m0 : MM (up σ 141 14 (nI q)) 149 (54 * q) Λ (K q) := (hK.2 q (by omega)).upo (by decide)
  obtain ⟨σ1, r1, r2, r3⟩ := jm_copyRow (A := 146) (B := 149) (o1 := 0) (o2 := 54 * q) (by decide) (by decide) hΛ m0 (by decide) (show 54 * q + 54 ≤ 108 by omega) (by decide) (by omega)
  have u08 : σ1 141 14 = nI q := by rw [r3 141 14 (fun z => by have := z.1; omega)]; exact up_s
  refine ⟨up σ1 141 11 0, ?_, ⟨?_, fun i hi => ?_⟩, r2.upo (by decide), up_s, Fs.up (P := fun a j => a = 146 ∨ (a = 141 ∧ (j = 14 ∨ j = 11))) ((Fs.up (P := fun a j => a = 146 ∨ (a = 141 ∧ (j = 14 ∨ j = 11))) Fs.rf (Or.inr ⟨rfl, Or.inl rfl⟩)).tr (r3.mono fun a j z => Or.inl z.1)) (Or.inr ⟨rfl, Or.inr rfl⟩)⟩
  · unfold J_X8_back
    rw [hK.1, if_neg (nne li_0 (by omega) (by omega) (by omega)), show nI (q + 1) - (1 : Int32) = nI q from by rw [li_1, nI_subI (by omega)]; rfl, up_s, show (54 : Int32) * nI q = nI (54 * q) from by rw [li_54, nI_mul], show J_X8_copies 146 0 149 (nI (54 * q)) 54 (up σ 141 14 (nI q)) = _ from r1, bd2_s, up_i (by decide), u08]
  · rw [up_i (by decide)]; exact u08
  · exact (((hK.2 i (by omega)).upo (a := 141) (by decide)).frs hΛ r3 fun j z1 z2 z3 => by have := z3.1; omega).upo (by decide)
theorem jc_undo (hn : n < 8) (ho : o < 8) (hP : PcP σ Λ (n + 1) o P T) : ∃ σ1, J_X7_undo σ = some (nI n, σ1) ∧ PcP σ1 Λ n o P T ∧ MC σ1 14 Λ (P n) ∧ Fs (fun a j => (14 ≤ a ∧ a ≤ 18) ∨ (a = 24 ∧ j = 3)) σ σ1 := by
  have ph := pm26 (show (o + n) % 8 < 8 from Nat.mod_lt _ (by decide))
  have m0 : MC (up σ 24 3 (nI n)) (pm 26 ((o + n) % 8)) Λ (P n) := (hP.2.2 n (by omega)).1.upo (by omega)
  obtain ⟨σ1, r1, r2, r3⟩ := jc_copy (c := 14) (d := pm 26 ((o + n) % 8)) m0 (by omega)
  have u3 : σ1 24 3 = nI n := by rw [r3 24 (by omega)]; exact up_s
  have u4 : (up σ 24 3 (nI n)) 24 4 = nI o := by rw [up_i (by decide)]; exact hP.2.1
  refine ⟨σ1, ?_, ⟨u3, ?_, fun i hi => ?_⟩, r2, (Fs.up (P := fun a j => (14 ≤ a ∧ a ≤ 18) ∨ (a = 24 ∧ j = 3)) Fs.rf (Or.inr ⟨rfl, rfl⟩)).tr (r3.fs fun a j z => Or.inl z)⟩
  · unfold J_X7_undo
    rw [hP.1, if_pos (show (1 : Int32) ≤ nI (n + 1) from by rw [li_1, nI_leI (by omega) (by omega)]; omega), show nI (n + 1) - (1 : Int32) = nI n from by rw [li_1, nI_subI (by omega)]; rfl, up_s, j3_before u4 ho (by omega), bd1_s, r1, bd2_s, u3]
  · rw [r3 24 (by omega)]; exact u4
  · have ph2 := pm26 (show (o + i) % 8 < 8 from Nat.mod_lt _ (by decide))
    refine ⟨((hP.2.2 i (by omega)).1.upo (a := 24) (by omega)).frs r3.cells fun a j z1 z2 z3 => by omega, ?_⟩
    rw [r3 25 (by omega), up_n (by decide)]; exact (hP.2.2 i (by omega)).2
theorem jm_undo (hΛ : LOK Λ) (hn : n < 8) (hP : PmP σ Λ (n + 1) P T) : ∃ σ1, J_X8_undo σ = some (nI n, σ1) ∧ PmP σ1 Λ n P T ∧ MM σ1 146 0 Λ (P n) ∧ Fs (fun a j => a = 146 ∨ (a = 141 ∧ j = 11)) σ σ1 := by
  have m0 : MM (up σ 141 11 (nI n)) 147 (54 * n) Λ (P n) := (hP.2 n (by omega)).1.upo (by decide)
  obtain ⟨σ1, r1, r2, r3⟩ := jm_copyRow (A := 146) (B := 147) (o1 := 0) (o2 := 54 * n) (by decide) (by decide) hΛ m0 (by decide) (show 54 * n + 54 ≤ 432 by omega) (by decide) (by omega)
  have u11 : σ1 141 11 = nI n := by rw [r3 141 11 (fun z => by have := z.1; omega)]; exact up_s
  refine ⟨σ1, ?_, ⟨u11, fun i hi => ⟨?_, ?_⟩⟩, r2, (Fs.up (P := fun a j => a = 146 ∨ (a = 141 ∧ j = 11)) Fs.rf (Or.inr ⟨rfl, rfl⟩)).tr (r3.mono fun a j z => Or.inl z.1)⟩
  · unfold J_X8_undo
    rw [hP.1, if_neg (nne li_0 (by omega) (by omega) (by omega)), show nI (n + 1) - (1 : Int32) = nI n from by rw [li_1, nI_subI (by omega)]; rfl, up_s, show (54 : Int32) * nI n = nI (54 * n) from by rw [li_54, nI_mul], show J_X8_copies 146 0 147 (nI (54 * n)) 54 (up σ 141 11 (nI n)) = _ from r1, bd2_s, u11]
  · exact ((hP.2 i (by omega)).1.upo (a := 141) (by decide)).frs hΛ r3 fun j z1 z2 z3 => by have := z3.1; omega
  · rw [r3 148 i (fun z => by have := z.1; omega), up_n (by decide)]; exact (hP.2 i (by omega)).2
end HALF
