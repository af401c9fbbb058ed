/-! all that one can come to: the model -/
def MW (σ : Sg) (t : WT) : Prop := σ 141 37 = nI (tN t) ∧ (∀ i, i < tN t → σ 158 i = nI (tW t i) ∧ σ 159 (tW t i) = nI (tF t i)) ∧ (∀ i, 1 ≤ i → i < tN t → σ 160 (tW t i) = nI (tW t (tQ t i)) ∧ σ 161 (tW t i) = nI (tB t i)) ∧ ∀ m, m < 72 → memT t m = false → σ 159 m = -1
def Wy (a j : Nat) : Prop := a = 157 ∨ (a = 141 ∧ (j = 32 ∨ j = 37)) ∨ (158 ≤ a ∧ a ≤ 161)
theorem Wy.no {a j : Nat} (h : Wy a j) : a = 157 ∨ (a = 141 ∧ (j = 32 ∨ j = 37)) ∨ (158 ≤ a ∧ a ≤ 161) := h
theorem Wt.wy {a j : Nat} (h : Wt a j) : Wy a j := by
  rcases h with z | z
  · exact Or.inl z
  · exact Or.inr (Or.inl ⟨z.1, Or.inl z.2⟩)
theorem Wy.wk {a j : Nat} (h : Wy a j) : Wk a j := by
  rcases h with z | z | z
  · exact Or.inr (Or.inr (Or.inl (by omega)))
  · exact Or.inr (Or.inr (Or.inr (Or.inl ⟨z.1, by omega⟩)))
  · exact Or.inr (Or.inr (Or.inl (by omega)))
section WALK5
variable {σ : Sg} {Λ : LT} {s : ST} {b o0 : Nat}
theorem MW.wt {σ' : Sg} {t : WT} (h : MW σ t) (f : Fs Wt σ σ') : MW σ' t := by
  have wt157 : ∀ a j, Wt a j → a = 157 ∨ (a = 141 ∧ j = 32) := fun _ _ z => z
  have e : ∀ a j, 158 ≤ a → σ' a j = σ a j := fun a j ha => f a j (fun z => by have := wt157 _ _ z; omega)
  obtain ⟨h1, h2, h3, h4⟩ := h
  refine ⟨?_, fun i hi => ?_, fun i h1 hi => ?_, fun m hm z => ?_⟩
  · rw [f 141 37 (fun z => by have := wt157 _ _ z; omega)]; exact h1
  · rw [e _ _ (by decide), e _ _ (by decide)]; exact h2 i hi
  · rw [e _ _ (by decide), e _ _ (by decide)]; exact h3 i h1 hi
  · rw [e _ _ (by decide)]; exact h4 m hm z
theorem jm_nowOne {o : Nat} (h : MS σ Λ (stO s b o)) (hs : SOK Λ s) (hb : b < lNb Λ) (ho : o < 72) : J_X8_nowOne (nI b) σ = some (nI o) := by
  have n8 := h.nb8
  have hp : sP (stO s b o) b = onX o := if_pos rfl
  have he : (sE (stO s b o)).testBit b = onE o := by
    show (setE (sE s) b (onE o)).testBit b = onE o
    rw [setE_bit hs.2.2.2.2 (by omega) (by omega), if_pos rfl]
  unfold J_X8_nowOne
  rw [show (37 : Int32) + nI b = nI (37 + b) from by rw [li_37, nI_add], if_pos ((inb_nI (by omega)).mpr (by omega)), nI_clamp (by omega), h.pl hb, h.ew, jm_has σ h.2.2.2.2.2.2.2 (by omega), bd1_s, hp, he]
  have e := o_of ho
  cases q : onE o
  · rw [q, if_neg (by decide)] at e
    rw [if_neg (show ¬ false = true by decide), if_pos z00, ad0]
    rw [show onX o = o by omega]
  · rw [q, if_pos rfl] at e
    rw [if_pos (show true = true from rfl), if_neg n10, show nI (onX o) + (36 : Int32) = nI (onX o + 36) from by rw [li_36, nI_add], ← e]
def addM (σ : Sg) (o n : Nat) (f q w : Int32) : Sg := up (up (up (up (up σ 159 o f) 160 o q) 161 o w) 158 n (nI o)) 141 37 (nI (n + 1))
theorem addM_fr {o n : Nat} {f q w : Int32} : Fs Wy σ (addM σ o n f q w) := by
  unfold addM
  exact Fs.up (P := Wy) (Fs.up (P := Wy) (Fs.up (P := Wy) (Fs.up (P := Wy) (Fs.up (P := Wy) Fs.rf (Or.inr (Or.inr ⟨by decide, by decide⟩))) (Or.inr (Or.inr ⟨by decide, by decide⟩))) (Or.inr (Or.inr ⟨by decide, by decide⟩))) (Or.inr (Or.inr ⟨by decide, by decide⟩))) (Or.inr (Or.inl ⟨rfl, Or.inr rfl⟩))
theorem addM_ms {o n : Nat} {f q w : Int32} {s' : ST} (h : MS σ Λ s') : MS (addM σ o n f q w) Λ s' := by
  have fr : Fs (fun a j => (158 ≤ a ∧ a ≤ 161) ∨ (a = 141 ∧ j = 37)) σ (addM σ o n f q w) := by
    unfold addM
    exact Fs.up (P := fun a j => (158 ≤ a ∧ a ≤ 161) ∨ (a = 141 ∧ j = 37)) (Fs.up (P := fun a j => (158 ≤ a ∧ a ≤ 161) ∨ (a = 141 ∧ j = 37)) (Fs.up (P := fun a j => (158 ≤ a ∧ a ≤ 161) ∨ (a = 141 ∧ j = 37)) (Fs.up (P := fun a j => (158 ≤ a ∧ a ≤ 161) ∨ (a = 141 ∧ j = 37)) (Fs.up (P := fun a j => (158 ≤ a ∧ a ≤ 161) ∨ (a = 141 ∧ j = 37)) Fs.rf (Or.inl ⟨by decide, by decide⟩)) (Or.inl ⟨by decide, by decide⟩)) (Or.inl ⟨by decide, by decide⟩)) (Or.inl ⟨by decide, by decide⟩)) (Or.inr ⟨rfl, rfl⟩)
  exact ⟨h.1.frs fr fun a j z1 z2 z3 w => by omega, h.2.1.frs h.2.2.1 fr fun j z1 z2 w => by omega, h.2.2⟩
theorem jm_reach30 {o n : Nat} {f q w : Int32} (ho : o < 72) (hn : n < 72) (h7 : σ 141 37 = nI n) : J_X8_reaches_b30 (nI o) q w f (nI o) σ = some ((), addM σ o n f q w) := by
  have i72 : inb (nI o) 72 = true := (inb_nI (by omega)).mpr ho
  have n72 : inb (nI n) 72 = true := (inb_nI (by omega)).mpr hn
  unfold J_X8_reaches_b30 addM
  rw [if_pos i72, if_pos i72, if_pos i72]
  simp only [up_n (show (141 : Nat) ≠ 159 by decide), up_n (show (141 : Nat) ≠ 160 by decide), up_n (show (141 : Nat) ≠ 161 by decide), up_n (show (141 : Nat) ≠ 158 by decide), h7, nI_clamp (show n < 2 ^ 31 by omega), nI_clamp (show o < 2 ^ 31 by omega), n72, ↓reduceIte]
  rw [show nI n + (1 : Int32) = nI (n + 1) from by rw [li_1, nI_add]]
theorem MW.app {t : WT} {o f q w : Nat} (tk : TOK Λ s b o0 t) (h : MW σ t) (ho : o < 72) (hm : memT t o = false) (hq : q < tN t) : MW (addM σ o (tN t) (nI f) (nI (tW t q)) (nI w)) (appT t o f q w) := by
  obtain ⟨c1, c2, c3, c4⟩ := h
  obtain ⟨e1, e2, e3, e4⟩ := @app_eq t o f q w
  have n1 : tN (appT t o f q w) = tN t + 1 := rfl
  have no : ∀ j, j < tN t → tW t j ≠ o := fun j hj z => by
    have : memT t o = true := memT_iff.mpr ⟨j, hj, z⟩
    rw [hm] at this
    exact absurd this (by decide)
  unfold addM
  refine ⟨by rw [up_s, n1], fun i hi => ?_, fun i hi1 hi => ?_, fun m hm1 hm2 => ?_⟩
  · by_cases e : i = tN t
    · rw [e, e1, e2]
      refine ⟨?_, ?_⟩
      · rw [up_n (by decide), up_s]
      · rw [up_n (by decide), up_n (by decide), up_n (by decide), up_n (by decide), up_s]
    · obtain ⟨l1, l2, l3, l4⟩ := @app_lt t o f q w i (by omega)
      obtain ⟨d1, d2⟩ := c2 i (by omega)
      rw [l1, l2]
      refine ⟨?_, ?_⟩
      · rw [up_n (by decide), up_i e, up_n (by decide), up_n (by decide), up_n (by decide)]; exact d1
      · rw [up_n (by decide), up_n (by decide), up_n (by decide), up_n (by decide), up_i (no i (by omega))]; exact d2
  · by_cases e : i = tN t
    · rw [e, e1, e3, e4, (@app_lt t o f q w q hq).1]
      refine ⟨?_, ?_⟩
      · rw [up_n (by decide), up_n (by decide), up_n (by decide), up_s]
      · rw [up_n (by decide), up_n (by decide), up_s]
    · obtain ⟨l1, l2, l3, l4⟩ := @app_lt t o f q w i (by omega)
      obtain ⟨d1, d2⟩ := c3 i hi1 (by omega)
      rw [l1, l3, l4]
      have qi := (tk.2.2.2.2.2.1 i hi1 (by omega)).1
      have ql : tW (appT t o f q w) (tQ t i) = tW t (tQ t i) := if_neg (by omega)
      refine ⟨?_, ?_⟩
      · rw [up_n (by decide), up_n (by decide), up_n (by decide), up_i (no i (by omega)), up_n (by decide), d1]
        rw [ql]
      · rw [up_n (by decide), up_n (by decide), up_i (no i (by omega)), up_n (by decide), up_n (by decide)]; exact d2
  · have nm : m ≠ o := fun z => by
      have := (memT_app (t := t) (o := o) (f := f) (q := q) (w := w) (m := m)).mpr (Or.inr z)
      rw [hm2] at this
      exact absurd this (by decide)
    have tm : memT t m = false := by
      cases y : memT t m
      · rfl
      · have := (memT_app (t := t) (o := o) (f := f) (q := q) (w := w) (m := m)).mpr (Or.inl y)
        rw [hm2] at this
        exact this.symm
    rw [up_n (by decide), up_n (by decide), up_n (by decide), up_n (by decide), up_i nm]
    exact c4 m hm1 tm
end WALK5
