/-! the text, read by the model -/
def TM (σ : Sg) (L : Nat → Nat) (t : Nat) : Prop := σ 141 17 = nI t ∧ t ≤ 200 ∧ ∀ i, i < t → σ 150 i = nI (L i) ∧ L i < 1000
def RM (σ : Sg) (r : RT) : Prop := σ 141 20 = nI (rQ r) ∧ σ 141 21 = nI (rW r) ∧ σ 141 23 = nI (rB r) ∧ σ 141 27 = plI (rWl r) ∧ σ 141 28 = nI (rBe r) ∧ σ 141 29 = nI (rSn r) ∧ (∀ x, x < rQ r → σ 152 x = nI (rG r x)) ∧ (∀ b, b < rB r → σ 153 b = nI (rK r b) ∧ σ 154 b = nI (rV r b) ∧ σ 155 b = nI (rX r b)) ∧ ∀ k, k < rSn r → σ 156 k = nI (rS r k)
def Rml (a j : Nat) : Prop := (a = 141 ∧ 18 ≤ j) ∨ (151 ≤ a ∧ a ≤ 156)
theorem Rml.no {a j : Nat} (h : Rml a j) : (a = 141 ∧ 18 ≤ j) ∨ (151 ≤ a ∧ a ≤ 156) := h
def Rtk (a j : Nat) : Prop := a = 151 ∨ (a = 141 ∧ j = 18)
theorem Rtk.no {a j : Nat} (h : Rtk a j) : a = 151 ∨ (a = 141 ∧ j = 18) := h
theorem Rtk.ml {a j : Nat} (h : Rtk a j) : Rml a j := by
  rcases h with z | z
  · exact Or.inr ⟨by omega, by omega⟩
  · exact Or.inl ⟨z.1, by omega⟩
def letM (L : Nat → Nat) (t h : Nat) : Int32 := if h < t then nI (L h) else -1
section TEXT5
variable {σ : Sg} {L : Nat → Nat} {t h : Nat} {r : RT}
theorem TM.fr {σ' : Sg} (c : TM σ L t) (f : Fs Rml σ σ') : TM σ' L t := by
  obtain ⟨c1, c2, c3⟩ := c
  refine ⟨?_, c2, fun i hi => ?_⟩
  · rw [f 141 17 (fun z => by have := z.no; omega)]; exact c1
  · rw [f 150 i (fun z => by have := z.no; omega)]; exact c3 i hi
theorem RM.tk {σ' : Sg} (c : RM σ r) (f : Fs Rtk σ σ') : RM σ' r := by
  obtain ⟨c0, c1, c2, c3, c4, c5, c6, c7, c8⟩ := c
  refine ⟨?_, ?_, ?_, ?_, ?_, ?_, fun x hx => ?_, fun b hb => ?_, fun k hk => ?_⟩
  · rw [f _ _ (fun z => by have := z.no; omega)]; exact c0
  · rw [f _ _ (fun z => by have := z.no; omega)]; exact c1
  · rw [f _ _ (fun z => by have := z.no; omega)]; exact c2
  · rw [f _ _ (fun z => by have := z.no; omega)]; exact c3
  · rw [f _ _ (fun z => by have := z.no; omega)]; exact c4
  · rw [f _ _ (fun z => by have := z.no; omega)]; exact c5
  · rw [f _ _ (fun z => by have := z.no; omega)]; exact c6 x hx
  · rw [f _ _ (fun z => by have := z.no; omega), f _ _ (fun z => by have := z.no; omega), f _ _ (fun z => by have := z.no; omega)]; exact c7 b hb
  · rw [f _ _ (fun z => by have := z.no; omega)]; exact c8 k hk
theorem TM.ch (c : TM σ L t) : chT L t h < 1000 := by
  unfold chT
  split
  · rename_i z; exact (c.2.2 h z).2
  · decide
theorem letM_eq (c : TM σ L t) {v : Nat} (hv : v < 1000) (h0 : v ≠ 0) : letM L t h = nI v ↔ chT L t h = v := by
  unfold letM chT
  by_cases q : h < t
  · have cl := (c.2.2 h q).2
    rw [if_pos q, if_pos q]
    exact nI_inj (by omega) (by omega)
  · rw [if_neg q, if_neg q]
    constructor
    · intro z
      exact absurd (show nI v < 0 from by rw [← z]; decide) (nI_nlt0 (by omega))
    · intro z; exact absurd z.symm h0
theorem letM_fig (q : isF (chT L t h) = true) : letM L t h = nI (chT L t h) := by
  have f := isF_iff.mp q
  unfold letM chT at *
  by_cases y : h < t
  · rw [if_pos y, if_pos y]
  · rw [if_neg y] at f; omega
theorem up18 {v : Int32} : Fs Rtk σ (up σ 141 18 v) := Fs.up (P := Rtk) Fs.rf (Or.inr ⟨rfl, rfl⟩)
end TEXT5
