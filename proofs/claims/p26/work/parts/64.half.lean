/-! the two halves of the invariant's parts -/
def PcP (σ : Sg) (Λ : LT) (n o : Nat) (P : Nat → ST) (T : Nat → Nat) : Prop := σ 24 3 = nI n ∧ σ 24 4 = nI o ∧ ∀ i, i < n → MC σ (pm 26 ((o + i) % 8)) Λ (P i) ∧ σ 25 ((o + i) % 8) = nI (T i)
def PgP (D : Nat) (Λ : LT) (n o : Nat) (P : Nat → ST) (T : Nat → Nat) : Prop := n ≤ 8 ∧ o < 8 ∧ ∀ i, i < n → SOK Λ (P i) ∧ sD (P i) ≤ D ∧ lostI Λ (P i) = 0 ∧ T i < 100
def PcK (σ : Sg) (Λ : LT) (q : Nat) (K : Nat → ST) : Prop := σ 0 8 = nI q ∧ ∀ i, i < q → MC σ (pm 68 i) Λ (K i)
def PgK (D : Nat) (Λ : LT) (q : Nat) (K : Nat → ST) : Prop := q ≤ 2 ∧ ∀ i, i < q → SOK Λ (K i) ∧ sD (K i) ≤ D
section HALF
variable {σ σ' : Sg} {Λ : LT} {s : ST} {D n o q : Nat} {P K : Nat → ST} {T : Nat → Nat}
theorem pm26 {w : Nat} (h : w < 8) : 27 ≤ pm 26 w ∧ pm 26 w ≤ 63 := by unfold pm; split <;> omega
theorem pm68 {w : Nat} (h : w < 2) : 69 ≤ pm 68 w ∧ pm 68 w ≤ 75 := by unfold pm; split <;> omega
variable {R : Nat → Nat → Prop}
theorem PcP.fr (h : PcP σ Λ n o P T) (f : Fs R σ σ') (hR : ∀ a j, 24 ≤ a → a ≤ 67 → ¬ R a j) : PcP σ' Λ n o P T := by
  refine ⟨?_, ?_, fun i hi => ?_⟩
  · rw [f _ _ (hR _ _ (by omega) (by omega))]; exact h.1
  · rw [f _ _ (hR _ _ (by omega) (by omega))]; exact h.2.1
  · have hm := pm26 (show (o + i) % 8 < 8 from Nat.mod_lt _ (by decide))
    refine ⟨(h.2.2 i hi).1.frs f fun a j z1 z2 => hR _ _ (by omega) (by omega), ?_⟩
    rw [f _ _ (hR _ _ (by omega) (by omega))]; exact (h.2.2 i hi).2
theorem PcK.fr (hq : q ≤ 2) (h : PcK σ Λ q K) (f : Fs R σ σ') (hR : ∀ a j, ((a = 0 ∧ j = 8) ∨ (69 ≤ a ∧ a ≤ 79)) → ¬ R a j) : PcK σ' Λ q K := by
  refine ⟨?_, fun i hi => ?_⟩
  · rw [f _ _ (hR _ _ (by omega))]; exact h.1
  · have hm := pm68 (show i < 2 by omega)
    exact (h.2 i hi).frs f fun a j z1 z2 => hR _ _ (by omega)
theorem MC.upo {c a k : Nat} {v : Int32} (h : MC σ c Λ s) (ha : a < c ∨ c + 4 < a) : MC (up σ a k v) c Λ s :=
  MC.fr h (up_na (by omega)) (up_na (by omega)) (up_na (by omega)) (up_na (by omega)) (up_na (by omega))
/-! keep, back, undo: the class -/
theorem j4_get {p i : Nat} (h : i < pln p) (h2 : pln p < 100) : J_X4_get p (nI i) σ = some (pm p i) := by
  unfold J_X4_get
  rw [if_neg (nI_nlt0 (by omega)), if_neg (show ¬ Int32.ofNat (pln p) ≤ nI i from fun z => by have := (nI_leI (a := pln p) (b := i) (by omega) (by omega)).mp z; omega), if_pos ((inb_nI (by omega)).mpr h), nI_clamp (by omega)]
theorem j3_slot {o i : Nat} (ho : σ 24 4 = nI o) (h1 : o < 8) (h2 : i ≤ 8) : J_X3_slot (nI i) σ = some (nI ((o + i) % 8)) := by
  have x8 : ∀ m, m < 17 → 0 ≤ (nI m ^^^ (8 : Int32)) := by decide +kernel
  unfold J_X3_slot J_JM_floorMod
  rw [ho, nI_add, if_neg (by decide), if_pos (x8 _ (by omega)), li_8, rmI_nI (by omega) (by omega), bd1_s]
theorem j3_before {o i : Nat} (ho : σ 24 4 = nI o) (h1 : o < 8) (h2 : i ≤ 8) : J_X3_before (nI i) σ = some (pm 26 ((o + i) % 8)) := by
  have hm : (o + i) % 8 < 8 := Nat.mod_lt _ (by decide)
  unfold J_X3_before
  rw [j3_slot ho h1 h2, bd1_s, j4_get hm (by decide), bd1_s]
theorem jc_keep (hq : q < 2) (hN : MC σ 14 Λ s) (hK : PcK σ Λ q K) : ∃ σ1, J_X7_keep σ = some (nI (q + 1), σ1) ∧ PcK σ1 Λ (q + 1) (fun i => if i = q then s else K i) ∧ Fs (fun a j => (69 ≤ a ∧ a ≤ 79) ∨ (a = 0 ∧ j = 8)) σ σ1 := by
  have ph := pm68 hq
  obtain ⟨σ1, r1, r2, r3⟩ := jc_copy (c := pm 68 q) (d := 14) hN (by omega)
  have u08 : σ1 0 8 = nI q := by rw [r3 0 (by omega)]; exact hK.1
  refine ⟨up σ1 0 8 (nI (q + 1)), ?_, ⟨up_s, fun i hi => ?_⟩, Fs.up (P := fun a j => (69 ≤ a ∧ a ≤ 79) ∨ (a = 0 ∧ j = 8)) (r3.fs fun a j z => by omega) (Or.inr ⟨rfl, rfl⟩)⟩
  · unfold J_X7_keep
    rw [hK.1, if_pos (show nI q < (2 : Int32) from by rw [li_2, nI_ltI (by omega) (by omega)]; omega), j4_get hq (by decide), bd1_s, r1, bd2_s, u08, up_s, show nI q + (1 : Int32) = nI (q + 1) from by rw [li_1, nI_add]]
  · show MC _ _ Λ (if i = q then s else K i)
    by_cases ei : i = q
    · rw [if_pos ei, ei]; exact r2.upo (by omega)
    · rw [if_neg ei]
      have d := pm_dis 68 ei
      have ph2 := pm68 (show i < 2 by omega)
      exact ((hK.2 i (by omega)).frs r3.cells fun a j z1 z2 z3 => by omega).upo (by omega)
theorem jc_back (hq : q < 2) (hK : PcK σ Λ (q + 1) K) : ∃ σ1, J_X7_back σ = some (nI q, σ1) ∧ PcK σ1 Λ q K ∧ MC σ1 14 Λ (K q) ∧ σ1 24 3 = nI 0 ∧ Fs (fun a j => (14 ≤ a ∧ a ≤ 18) ∨ (a = 0 ∧ j = 8) ∨ (a = 24 ∧ j = 3)) σ σ1 := by
  have ph := pm68 hq
  have m0 : MC (up σ 0 8 (nI q)) (pm 68 q) Λ (K q) := (hK.2 q (by omega)).upo (by omega)
  obtain ⟨σ1, r1, r2, r3⟩ := jc_copy (c := 14) (d := pm 68 q) m0 (by omega)
  have u08 : σ1 0 8 = nI q := by rw [r3 0 (by omega)]; exact up_s
  refine ⟨up σ1 24 3 0, ?_, ⟨?_, fun i hi => ?_⟩, r2.upo (by omega), up_s, Fs.up (P := fun a j => (14 ≤ a ∧ a ≤ 18) ∨ (a = 0 ∧ j = 8) ∨ (a = 24 ∧ j = 3)) ((Fs.up (P := fun a j => (14 ≤ a ∧ a ≤ 18) ∨ (a = 0 ∧ j = 8) ∨ (a = 24 ∧ j = 3)) Fs.rf (Or.inr (Or.inl ⟨rfl, rfl⟩))).tr (r3.fs fun a j z => Or.inl z)) (Or.inr (Or.inr ⟨rfl, rfl⟩))⟩
  · unfold J_X7_back
    rw [hK.1, if_pos (show (1 : Int32) ≤ nI (q + 1) from by rw [li_1, nI_leI (by omega) (by omega)]; omega), show nI (q + 1) - (1 : Int32) = nI q from by rw [li_1, nI_subI (by omega)]; rfl, up_s, j4_get hq (by decide), bd1_s, r1, bd2_s, up_n (by decide), u08]
  · rw [up_n (by decide)]; exact u08
  · have ph2 := pm68 (show i < 2 by omega)
    exact (((hK.2 i (by omega)).upo (a := 0) (by omega)).frs r3.cells fun a j z1 z2 z3 => by omega).upo (by omega)
theorem jc_undo (hn : n < 8) (ho : o < 8) (hP : PcP σ Λ (n + 1) o P T) : ∃ σ1, J_X7_undo σ = some (nI n, σ1) ∧ PcP σ1 Λ n o P T ∧ MC σ1 14 Λ (P n) ∧ Fs (fun a j => (14 ≤ a ∧ a ≤ 18) ∨ (a = 24 ∧ j = 3)) σ σ1 := by
  have ph := pm26 (show (o + n) % 8 < 8 from Nat.mod_lt _ (by decide))
  have m0 : MC (up σ 24 3 (nI n)) (pm 26 ((o + n) % 8)) Λ (P n) := (hP.2.2 n (by omega)).1.upo (by omega)
  obtain ⟨σ1, r1, r2, r3⟩ := jc_copy (c := 14) (d := pm 26 ((o + n) % 8)) m0 (by omega)
  have u3 : σ1 24 3 = nI n := by rw [r3 24 (by omega)]; exact up_s
  have u4 : (up σ 24 3 (nI n)) 24 4 = nI o := by rw [up_i (by decide)]; exact hP.2.1
  refine ⟨σ1, ?_, ⟨u3, ?_, fun i hi => ?_⟩, r2, (Fs.up (P := fun a j => (14 ≤ a ∧ a ≤ 18) ∨ (a = 24 ∧ j = 3)) Fs.rf (Or.inr ⟨rfl, rfl⟩)).tr (r3.fs fun a j z => Or.inl z)⟩
  · unfold J_X7_undo
    rw [hP.1, if_pos (show (1 : Int32) ≤ nI (n + 1) from by rw [li_1, nI_leI (by omega) (by omega)]; omega), show nI (n + 1) - (1 : Int32) = nI n from by rw [li_1, nI_subI (by omega)]; rfl, up_s, j3_before u4 ho (by omega), bd1_s, r1, bd2_s, u3]
  · rw [r3 24 (by omega)]; exact u4
  · have ph2 := pm26 (show (o + i) % 8 < 8 from Nat.mod_lt _ (by decide))
    refine ⟨((hP.2.2 i (by omega)).1.upo (a := 24) (by omega)).frs r3.cells fun a j z1 z2 z3 => by omega, ?_⟩
    rw [r3 25 (by omega), up_n (by decide)]; exact (hP.2.2 i (by omega)).2
end HALF
