/-! the text, read by the model -/
def TM (σ : Sg) (L : Nat → Nat) (t : Nat) : Prop := σ 141 17 = nI t ∧ t ≤ 200 ∧ ∀ i, i < t → σ 150 i = nI (L i) ∧ L i < 1000
def RM (σ : Sg) (r : RT) : Prop := σ 141 20 = nI (rQ r) ∧ σ 141 21 = nI (rW r) ∧ σ 141 23 = nI (rB r) ∧ σ 141 27 = plI (rWl r) ∧ σ 141 28 = nI (rBe r) ∧ σ 141 29 = nI (rSn r) ∧ (∀ x, x < rQ r → σ 152 x = nI (rG r x)) ∧ (∀ b, b < rB r → σ 153 b = nI (rK r b) ∧ σ 154 b = nI (rV r b) ∧ σ 155 b = nI (rX r b)) ∧ ∀ k, k < rSn r → σ 156 k = nI (rS r k)
def Rml (a j : Nat) : Prop := (a = 141 ∧ 18 ≤ j) ∨ (151 ≤ a ∧ a ≤ 156)
theorem Rml.no {a j : Nat} (h : Rml a j) : (a = 141 ∧ 18 ≤ j) ∨ (151 ≤ a ∧ a ≤ 156) := h
def Rtk (a j : Nat) : Prop := a = 151 ∨ (a = 141 ∧ j = 18)
theorem Rtk.no {a j : Nat} (h : Rtk a j) : a = 151 ∨ (a = 141 ∧ j = 18) := h
theorem Rtk.ml {a j : Nat} (h : Rtk a j) : Rml a j := by
  rcases h with z | z
  · exact Or.inr ⟨by omega, by omega⟩
  · exact Or.inl ⟨z.1, by omega⟩
def letM (L : Nat → Nat) (t h : Nat) : Int32 := if h < t then nI (L h) else -1
section TEXT5
variable {σ : Sg} {L : Nat → Nat} {t h : Nat} {r : RT}
theorem TM.fr {σ' : Sg} (c : TM σ L t) (f : Fs Rml σ σ') : TM σ' L t := by
  obtain ⟨c1, c2, c3⟩ := c
  refine ⟨?_, c2, fun i hi => ?_⟩
  · rw [f 141 17 (fun z => by have := z.no; omega)]; exact c1
  · rw [f 150 i (fun z => by have := z.no; omega)]; exact c3 i hi
theorem RM.tk {σ' : Sg} (c : RM σ r) (f : Fs Rtk σ σ') : RM σ' r := by
  obtain ⟨c0, c1, c2, c3, c4, c5, c6, c7, c8⟩ := c
  refine ⟨?_, ?_, ?_, ?_, ?_, ?_, fun x hx => ?_, fun b hb => ?_, fun k hk => ?_⟩
  · rw [f _ _ (fun z => by have := z.no; omega)]; exact c0
  · rw [f _ _ (fun z => by have := z.no; omega)]; exact c1
  · rw [f _ _ (fun z => by have := z.no; omega)]; exact c2
  · rw [f _ _ (fun z => by have := z.no; omega)]; exact c3
  · rw [f _ _ (fun z => by have := z.no; omega)]; exact c4
  · rw [f _ _ (fun z => by have := z.no; omega)]; exact c5
  · rw [f _ _ (fun z => by have := z.no; omega)]; exact c6 x hx
  · rw [f _ _ (fun z => by have := z.no; omega), f _ _ (fun z => by have := z.no; omega), f _ _ (fun z => by have := z.no; omega)]; exact c7 b hb
  · rw [f _ _ (fun z => by have := z.no; omega)]; exact c8 k hk
theorem TM.ch (c : TM σ L t) : chT L t h < 1000 := by
  unfold chT
  split
  · rename_i z; exact (c.2.2 h z).2
  · decide
theorem jm_let (c : TM σ L t) (hh : h < 1000) : J_X8_letterAt (nI h) σ = some (letM L t h) := by
  have t2 := c.2.1
  unfold J_X8_letterAt letM
  rw [c.1]
  by_cases q : h < t
  · rw [if_neg (fun z => by have := (nI_leI (by omega) (by omega)).mp z; omega), if_pos ((inb_nI (by omega)).mpr (by omega)), nI_clamp (by omega), (c.2.2 h q).1, if_pos q]
  · rw [if_pos ((nI_leI (by omega) (by omega)).mpr (by omega)), if_neg q]
theorem jm_isF (c : TM σ L t) : J_X8_isFigure (letM L t h) σ = some (bI (isF (chT L t h))) := by
  have cc := c.ch (h := h)
  unfold J_X8_isFigure J_X8_in letM chT
  have e48 : (48 : Int32) = nI 48 := rfl
  have e57 : (57 : Int32) = nI 57 := rfl
  by_cases q : h < t
  · have cl := (c.2.2 h q).2
    rw [if_pos q, if_pos q, e48, e57]
    by_cases q1 : L h < 48
    · rw [if_pos ((nI_ltI (by omega) (by omega)).mpr q1), bd1_s]
      have : isF (L h) = false := by
        cases y : isF (L h)
        · rfl
        · have := isF_iff.mp y; omega
      rw [this]; rfl
    · rw [if_neg (fun z => q1 ((nI_ltI (by omega) (by omega)).mp z))]
      by_cases q2 : 57 < L h
      · rw [if_pos ((nI_ltI (by omega) (by omega)).mpr q2), bd1_s]
        have : isF (L h) = false := by
          cases y : isF (L h)
          · rfl
          · have := isF_iff.mp y; omega
        rw [this]; rfl
      · rw [if_neg (fun z => q2 ((nI_ltI (by omega) (by omega)).mp z)), bd1_s, isF_iff.mpr ⟨by omega, by omega⟩]
        rfl
  · rw [if_neg q, if_neg q, if_pos (by decide), bd1_s]
    rfl
theorem letM_eq (c : TM σ L t) {v : Nat} (hv : v < 1000) (h0 : v ≠ 0) : letM L t h = nI v ↔ chT L t h = v := by
  unfold letM chT
  by_cases q : h < t
  · have cl := (c.2.2 h q).2
    rw [if_pos q, if_pos q]
    exact nI_inj (by omega) (by omega)
  · rw [if_neg q, if_neg q]
    constructor
    · intro z
      exact absurd (show nI v < 0 from by rw [← z]; decide) (nI_nlt0 (by omega))
    · intro z; exact absurd z.symm h0
theorem letM_fig (q : isF (chT L t h) = true) : letM L t h = nI (chT L t h) := by
  have f := isF_iff.mp q
  unfold letM chT at *
  by_cases y : h < t
  · rw [if_pos y, if_pos y]
  · rw [if_neg y] at f; omega
theorem up18 {v : Int32} : Fs Rtk σ (up σ 141 18 v) := Fs.up (P := Rtk) Fs.rf (Or.inr ⟨rfl, rfl⟩)
/-- behind a number: the letter that must stand there -/
theorem jm_b101 (c : TM σ L t) (e : σ 141 18 = nI h) (hh : h < 900) (y2 : Int32 → Int32 → Sg → Option (Int32 × Sg)) {n k : Nat} (hn : 1 ≤ n) (hn3 : n ≤ 3) (hk : k < n) : J_X8_readNumbers_b101 y2 (nI n) (nI k) σ = if chT L t h = (if n - 1 ≤ k then 59 else 44) then y2 (nI n) (nI (k + 1)) (up σ 141 18 (nI (h + 1))) else some (0, σ) := by
  unfold J_X8_readNumbers_b101
  rw [e, jm_let c (by omega), bd1_s, show nI n - (1 : Int32) = nI (n - 1) from by rw [li_1, nI_subI hn], show nI h + (1 : Int32) = nI (h + 1) from by rw [li_1, nI_add], show nI k + (1 : Int32) = nI (k + 1) from by rw [li_1, nI_add]]
  by_cases q : n - 1 ≤ k
  · rw [if_pos ((nI_leI (by omega) (by omega)).mpr q), if_pos q]
    by_cases q2 : chT L t h = 59
    · rw [if_pos (show letM L t h = 59 from (letM_eq c (v := 59) (by decide) (by decide)).mpr q2), if_pos q2]
    · rw [if_neg (show ¬ letM L t h = 59 from fun z => q2 ((letM_eq c (v := 59) (by decide) (by decide)).mp z)), if_neg q2]
  · rw [if_neg (fun z => q ((nI_leI (by omega) (by omega)).mp z)), if_neg q]
    by_cases q2 : chT L t h = 44
    · rw [if_pos (show letM L t h = 44 from (letM_eq c (v := 44) (by decide) (by decide)).mpr q2), if_pos q2]
    · rw [if_neg (show ¬ letM L t h = 44 from fun z => q2 ((letM_eq c (v := 44) (by decide) (by decide)).mp z)), if_neg q2]
theorem jm_tok (c : TM σ L t) (e : σ 141 18 = nI h) (hh : h < 800) {n k : Nat} (hn : 1 ≤ n) (hn3 : n ≤ 3) (hk : k < n) (j : Nat) : (tokT L t (if n - 1 ≤ k then 59 else 44) h = none → ∃ σ', J_X8_readNumbers_b2 (j + 1) (nI n) (nI k) σ = some (0, σ') ∧ Fs Rtk σ σ') ∧ ∀ a h', tokT L t (if n - 1 ≤ k then 59 else 44) h = some (a, h') → ∃ σ', J_X8_readNumbers_b2 (j + 1) (nI n) (nI k) σ = J_X8_readNumbers_b2 j (nI n) (nI (k + 1)) σ' ∧ σ' 151 k = nI a ∧ (∀ m, m ≠ k → σ' 151 m = σ 151 m) ∧ σ' 141 18 = nI h' ∧ Fs Rtk σ σ' := by
  have cc := c.ch (h := h)
  have cc2 := c.ch (h := h + 1)
  have i3 : inb (nI k) 3 = true := (inb_nI (by omega)).mpr (by omega)
  generalize hv : (if n - 1 ≤ k then 59 else 44) = v
  rw [J_X8_readNumbers_b2, if_neg (fun z => by have := (nI_leI (by omega) (by omega)).mp z; omega), e, jm_let c (by omega), bd1_s, jm_isF c, bd1_s]
  unfold tokT numT
  cases q : isF (chT L t h)
  · rw [if_pos (show bI false = 0 from rfl), if_neg (by decide)]
    exact ⟨fun _ => ⟨σ, rfl, Fs.rf⟩, fun a h' z => by simp at z⟩
  · have f := isF_iff.mp q
    have e48 : (48 : Int32) = nI 48 := rfl
    rw [if_neg (show ¬ bI true = 0 from by decide), bd1_s, if_pos i3, nI_clamp (by omega), letM_fig q, show nI (chT L t h) - (48 : Int32) = nI (chT L t h - 48) from by rw [e48, nI_subI f.1], up_n (show (141 : Nat) ≠ 151 by decide), e, show nI h + (1 : Int32) = nI (h + 1) from by rw [li_1, nI_add], if_pos rfl]
    have fa : Fs Rtk σ (up (up σ 151 k (nI (chT L t h - 48))) 141 18 (nI (h + 1))) := Fs.up (P := Rtk) (Fs.up (P := Rtk) Fs.rf (Or.inl rfl)) (Or.inr ⟨rfl, rfl⟩)
    have ca : TM (up (up σ 151 k (nI (chT L t h - 48))) 141 18 (nI (h + 1))) L t := c.fr (fa.mono fun _ _ z => z.ml)
    have ea : (up (up σ 151 k (nI (chT L t h - 48))) 141 18 (nI (h + 1))) 141 18 = nI (h + 1) := up_s
    have ka : (up (up σ 151 k (nI (chT L t h - 48))) 141 18 (nI (h + 1))) 151 k = nI (chT L t h - 48) := by rw [up_n (by decide), up_s]
    have ma : ∀ m, m ≠ k → (up (up σ 151 k (nI (chT L t h - 48))) 141 18 (nI (h + 1))) 151 m = σ 151 m := fun m hm => by rw [up_n (by decide), up_i hm]
    generalize up (up σ 151 k (nI (chT L t h - 48))) 141 18 (nI (h + 1)) = σa at fa ca ea ka ma ⊢
    rw [ea, jm_let ca (by omega), bd1_s, jm_isF ca, bd1_s]
    cases q2 : isF (chT L t (h + 1))
    · rw [if_pos (show bI false = 0 from rfl), if_neg (by decide), jm_b101 ca ea (by omega) _ hn hn3 hk, hv]
      show ((if chT L t (h + 1) = v then some (chT L t h - 48, h + 1 + 1) else none) = none → _) ∧ ∀ a h', (if chT L t (h + 1) = v then some (chT L t h - 48, h + 1 + 1) else none) = some (a, h') → _
      by_cases q3 : chT L t (h + 1) = v
      · rw [if_pos q3, if_pos q3]
        refine ⟨fun z => by simp at z, fun a h' z => ?_⟩
        have zz := Prod.mk.inj (Option.some.inj z)
        refine ⟨up σa 141 18 (nI (h + 1 + 1)), rfl, ?_, fun m hm => ?_, ?_, fa.tr up18⟩
        · rw [up_n (by decide), ka, zz.1]
        · rw [up_n (by decide)]; exact ma m hm
        · rw [up_s, zz.2]
      · rw [if_neg q3, if_neg q3]
        exact ⟨fun _ => ⟨σa, rfl, fa⟩, fun a h' z => by simp at z⟩
    · have f2 := isF_iff.mp q2
      rw [if_neg (show ¬ bI true = 0 from by decide), if_pos i3, bd1_s, if_pos i3, if_pos rfl, letM_fig q2, ka, show (10 : Int32) * nI (chT L t h - 48) + nI (chT L t (h + 1)) - (48 : Int32) = nI (10 * (chT L t h - 48) + (chT L t (h + 1) - 48)) from by rw [li_10, nI_mul, nI_add, e48, nI_subI (by omega)]; congr 1; omega, up_n (show (141 : Nat) ≠ 151 by decide), ea, show nI (h + 1) + (1 : Int32) = nI (h + 2) from by rw [li_1, nI_add]]
      have fb : Fs Rtk σ (up (up σa 151 k (nI (10 * (chT L t h - 48) + (chT L t (h + 1) - 48)))) 141 18 (nI (h + 2))) := Fs.up (P := Rtk) (Fs.up (P := Rtk) fa (Or.inl rfl)) (Or.inr ⟨rfl, rfl⟩)
      have cb : TM (up (up σa 151 k (nI (10 * (chT L t h - 48) + (chT L t (h + 1) - 48)))) 141 18 (nI (h + 2))) L t := c.fr (fb.mono fun _ _ z => z.ml)
      have eb : (up (up σa 151 k (nI (10 * (chT L t h - 48) + (chT L t (h + 1) - 48)))) 141 18 (nI (h + 2))) 141 18 = nI (h + 2) := up_s
      have kb : (up (up σa 151 k (nI (10 * (chT L t h - 48) + (chT L t (h + 1) - 48)))) 141 18 (nI (h + 2))) 151 k = nI (10 * (chT L t h - 48) + (chT L t (h + 1) - 48)) := by rw [up_n (by decide), up_s]
      have mb : ∀ m, m ≠ k → (up (up σa 151 k (nI (10 * (chT L t h - 48) + (chT L t (h + 1) - 48)))) 141 18 (nI (h + 2))) 151 m = σ 151 m := fun m hm => by rw [up_n (by decide), up_i hm]; exact ma m hm
      generalize up (up σa 151 k (nI (10 * (chT L t h - 48) + (chT L t (h + 1) - 48)))) 141 18 (nI (h + 2)) = σb at fb cb eb kb mb ⊢
      rw [jm_b101 cb eb (by omega) _ hn hn3 hk, hv]
      show ((if chT L t (h + 2) = v then some (10 * (chT L t h - 48) + (chT L t (h + 1) - 48), h + 2 + 1) else none) = none → _) ∧ ∀ a h', (if chT L t (h + 2) = v then some (10 * (chT L t h - 48) + (chT L t (h + 1) - 48), h + 2 + 1) else none) = some (a, h') → _
      by_cases q3 : chT L t (h + 2) = v
      · rw [if_pos q3, if_pos q3]
        refine ⟨fun z => by simp at z, fun a h' z => ?_⟩
        have zz := Prod.mk.inj (Option.some.inj z)
        refine ⟨up σb 141 18 (nI (h + 2 + 1)), rfl, ?_, fun m hm => ?_, ?_, fb.tr up18⟩
        · rw [up_n (by decide), kb, zz.1]
        · rw [up_n (by decide)]; exact mb m hm
        · rw [up_s, zz.2]
      · rw [if_neg q3, if_neg q3]
        exact ⟨fun _ => ⟨σb, rfl, fb⟩, fun a h' z => by simp at z⟩
theorem jm_tokEnd {n : Nat} (hn : n ≤ 3) (j : Nat) : J_X8_readNumbers_b2 (j + 1) (nI n) (nI n) σ = some (1, σ) := by
  rw [J_X8_readNumbers_b2, if_pos (Int32.le_refl _)]
/-- one number and a semicolon -/
theorem jm_num1 (c : TM σ L t) (e : σ 141 18 = nI h) (hh : h < 800) : (tokT L t 59 h = none → ∃ σ', J_X8_readNumbers 1 σ = some (0, σ') ∧ Fs Rtk σ σ') ∧ ∀ a h', tokT L t 59 h = some (a, h') → ∃ σ', J_X8_readNumbers 1 σ = some (1, σ') ∧ σ' 151 0 = nI a ∧ σ' 141 18 = nI h' ∧ Fs Rtk σ σ' := by
  obtain ⟨a1, a2⟩ := jm_tok c e hh (n := 1) (k := 0) (by decide) (by decide) (by decide) 999999999999999
  rw [if_pos (by decide)] at a1 a2
  unfold J_X8_readNumbers
  rw [FU_eq]
  refine ⟨a1, fun a h' z => ?_⟩
  obtain ⟨σ', b1, b2, b3, b4, b5⟩ := a2 a h' z
  exact ⟨σ', b1.trans (jm_tokEnd (n := 1) (by decide) 999999999999998), b2, b4, b5⟩
theorem jm_isTold {k a lo hi : Nat} (hk : k < 3) (ha : a < 1000) (hlo : lo < 1000) (hhi : hi < 1000) (e : σ 151 k = nI a) : J_X8_isTold (nI k) (nI lo) (nI hi) σ = some (bI (decide (lo ≤ a ∧ a ≤ hi))) := by
  unfold J_X8_isTold J_X8_in
  rw [if_pos ((inb_nI (by omega)).mpr hk), nI_clamp (by omega), e]
  by_cases q1 : a < lo
  · rw [if_pos ((nI_ltI (by omega) (by omega)).mpr q1), bd1_s, decide_eq_false (by omega)]
    rfl
  · rw [if_neg (fun z => q1 ((nI_ltI (by omega) (by omega)).mp z))]
    by_cases q2 : hi < a
    · rw [if_pos ((nI_ltI (by omega) (by omega)).mpr q2), bd1_s, decide_eq_false (by omega)]
      rfl
    · rw [if_neg (fun z => q2 ((nI_ltI (by omega) (by omega)).mp z)), bd1_s, decide_eq_true (by omega)]
      rfl
theorem jm_isDry (rm : RM σ r) (ok : ROK r) {k a : Nat} (hk : k < 3) (ha : a < 100) (e : σ 151 k = nI a) : J_X8_isDry (nI k) σ = some (bI (dryT r a)) := by
  have q36 := ok.q36
  unfold J_X8_isDry dryT
  rw [rm.1]
  by_cases q0 : rQ r = 0
  · have : J_X8_isTold (nI k) 0 (nI (rQ r) - 1) σ = some 0 := by
      unfold J_X8_isTold J_X8_in
      rw [if_pos ((inb_nI (by omega)).mpr hk), nI_clamp (by omega), e, if_neg (nI_nlt0 (by omega)), q0, if_pos (show nI 0 - (1 : Int32) < nI a from by
        apply Int32.lt_iff_toInt_lt.mpr
        rw [nI_toInt (by omega), show (nI 0 - (1 : Int32)).toInt = -1 from by decide]
        omega), bd1_s]
      rfl
    rw [this, bd1_s, if_pos z00, q0]
    rfl
  · rw [show nI (rQ r) - (1 : Int32) = nI (rQ r - 1) from by rw [li_1, nI_subI (by omega)], show J_X8_isTold (nI k) 0 (nI (rQ r - 1)) σ = _ from jm_isTold (lo := 0) hk (by omega) (by decide) (by omega) e, bd1_s]
    by_cases q : a < rQ r
    · have g9 := ok.2.2.1 a q
      rw [decide_eq_true (show 0 ≤ a ∧ a ≤ rQ r - 1 by omega), if_neg (show ¬ bI true = 0 from by decide), if_pos ((inb_nI (by omega)).mpr hk), nI_clamp (n := k) (by omega), e, if_pos ((inb_nI (by omega)).mpr (by omega)), nI_clamp (n := a) (by omega), rm.2.2.2.2.2.2.1 a q]
      by_cases g : rG r a = 9
      · rw [if_pos (neq li_9 g)]
        simp [q, g, bI]
      · rw [if_neg (nne li_9 (by omega) (by omega) g)]
        simp [q, g, bI]
    · rw [decide_eq_false (show ¬ (0 ≤ a ∧ a ≤ rQ r - 1) by omega), if_pos (show bI false = 0 from rfl)]
      simp [q, bI]
end TEXT5
