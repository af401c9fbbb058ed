/-! all that one can come to: the class -/
def cmO (Λ : LT) (b o : Nat) : Nat := if lKd Λ b = 2 ∧ onE o = false then onX o + 36 else onX o
def seenC (Λ : LT) (b : Nat) (t : WT) (m : Nat) : Bool := memK (fun i => cmO Λ b (tW t i)) m (tN t)
def CW (Λ : LT) (b : Nat) (σ : Sg) (t : WT) : Prop := σ 80 7 = nI (tN t) ∧ (∀ i, i < tN t → σ 81 i = nI (onX (tW t i)) ∧ σ 82 i = nI (kdS Λ b (onE (tW t i))) ∧ σ 83 i = nI (tF t i)) ∧ (σ 84 0 = -4 ∧ σ 85 0 = -4) ∧ (∀ i, 1 ≤ i → i < tN t → σ 84 i = nI (tQ t i) ∧ σ 85 i = nI (tB t i)) ∧ ∀ m, m < 72 → σ 86 m = if seenC Λ b t m = true then 1 else 0
section WALK3
variable {σ : Sg} {Λ : LT} {s : ST} {b o0 : Nat}
theorem MC.cong {c : Nat} {s' : ST} (h : MC σ c Λ s) (hD : sD s' = sD s) (hG : sG s' = sG s) (hP : ∀ a, a < lNb Λ → sP s' a = sP s a) (hK : ∀ a, a < lNb Λ → kdN Λ s' a = kdN Λ s a) (hH : sH s' = sH s) : MC σ c Λ s' := by
  obtain ⟨m0, m1, m2, m3, m4⟩ := h
  refine ⟨by rw [hD]; exact m0, by rw [hG]; exact m1, fun a ha => by rw [hP a ha]; exact m2 a ha, fun a ha => by rw [hK a ha]; exact m3 a ha, by rw [hH]; exact m4⟩
def o0N (s : ST) (b : Nat) : Nat := sP s b + if (sE s).testBit b = true then 36 else 0
theorem o0_x (hΛ : LOK Λ) (hs : SOK Λ s) (hb : b < lNb Λ) (hp : sP s b ≠ 36) : o0N s b < 72 ∧ onX (o0N s b) = sP s b ∧ onE (o0N s b) = (sE s).testBit b ∧ freeX Λ s b (onX (o0N s b)) := by
  have h36 := hΛ.sq.2.1
  have q : sP s b < lSq Λ ∧ lM Λ (sP s b) ≠ 9 := by rcases hs.2.1 b hb with z | z; exact absurd z hp; exact z
  have hx : onX (o0N s b) = sP s b := by
    unfold onX o0N
    split <;> omega
  refine ⟨by unfold o0N; split <;> omega, hx, ?_, ?_⟩
  · unfold onE o0N
    cases (sE s).testBit b
    · simp; omega
    · simp
  · rw [hx]
    refine ⟨q.1, q.2, fun a ha hne z => ?_⟩
    exact hne (hs.2.2.1 a b ha hb z (by rw [z]; exact hp))
theorem kdS_eq {e : Bool} (h : lKd Λ b ≤ 3) : kdS Λ b e ≤ 3 := by
  unfold kdS
  split <;> omega
theorem CC.st0 {c : Nat} (h : CC σ c Λ s) (hb : b < lNb Λ) (hp : sP s b ≠ 36) : CC σ c Λ (stO s b (o0N s b)) := by
  have hΛ := h.2.2.1
  have hs := h.2.2.2
  have n8 := h.nb8
  obtain ⟨o1, o2, o3, o4⟩ := o0_x hΛ hs hb hp
  refine ⟨h.1, MC.cong h.2.1 rfl rfl (fun a ha => ?_) (fun a ha => ?_) rfl, hΛ, stS_ok hΛ hs hb hp o4⟩
  · show (if a = b then onX (o0N s b) else sP s a) = sP s a
    by_cases q : a = b
    · rw [if_pos q, o2, q]
    · rw [if_neg q]
  · unfold stO
    rw [kdN_st hs.2.2.2.2 (by omega) (by omega)]
    by_cases q : a = b
    · rw [if_pos q, o3, q]
      rfl
    · rw [if_neg q]
theorem jc_putO {o p : Nat} (h : CC σ 87 Λ (stO s b o)) (hs : SOK Λ s) (hb : b < lNb Λ) (hp : sP s b ≠ 36) (hf : freeX Λ s b (onX p)) : ∃ σ', J_X2_put 87 (nI b) (nI (onX p)) (nI (kdS Λ b (onE p))) σ = some ((), σ') ∧ CC σ' 87 Λ (stO s b p) ∧ Fr (fun a => a = 89 ∨ a = 90) σ σ' := by
  have n8 := h.nb8
  have hΛ := h.2.2.1
  have h36 := hΛ.sq.2.1
  have x36 : onX p ≠ 36 := by unfold onX; omega
  refine ⟨_, jc_put h.nb n8 hb, ⟨LC.up (by decide) (LC.up (by decide) h.1), ?_, hΛ, stS_ok hΛ hs hb hp hf⟩, Fr.up (P := fun a => a = 89 ∨ a = 90) (Fr.up (P := fun a => a = 89 ∨ a = 90) Fr.rf (Or.inl rfl)) (Or.inr rfl)⟩
  have m1 := MC.upP (b := b) (v := onX p) h.2.1
  rw [plI_of x36] at m1
  have m2 := MC.upK (b := b) (k := kdS Λ b (onE p)) (e := setE (sE s) b (onE p)) (fun a ha => ?_) m1
  · unfold stO at m2
    rw [stS_st] at m2
    exact m2
  · have e1 : ewS (plS (stO s b o) b (onX p)) (setE (sE s) b (onE p)) = stS s b (onX p) (onE p) := by unfold stO; exact stS_st
    rw [e1, kdN_st hs.2.2.2.2 (by omega) (by omega)]
    by_cases q : a = b
    · rw [if_pos q, if_pos q]
    · rw [if_neg q, if_neg q]
      show _ = kdN Λ (stO s b o) a
      unfold stO
      rw [kdN_st hs.2.2.2.2 (by omega) (by omega), if_neg q]
theorem jc_moveO {o p w : Nat} (h : CC σ 87 Λ (stO s b o)) (hs : SOK Λ s) (hb : b < lNb Λ) (hp : sP s b ≠ 36) (hf : freeX Λ s b (onX o)) (hw : w < 4) (hn : nbT Λ s b o w = some p) : ∃ σ', J_X2_move 87 (nI b) (nI (onX p)) σ = some ((), σ') ∧ CC σ' 87 Λ (stO s b p) ∧ Fr (fun a => a = 89 ∨ a = 90) σ σ' := by
  have n8 := h.nb8
  have hΛ := h.2.2.1
  have hE := hs.2.2.2.2
  obtain ⟨o1, o2, o3, o4, o5, o6, o7⟩ := nbT_ok hΛ hs hb hp hf hw hn
  have pb : sP (stO s b o) b = onX o := if_pos rfl
  have h36 := hΛ.sq.2.1
  obtain ⟨σ1, r1, r2, r3⟩ := jc_move h (by decide) hb (x := onX p) (by rw [pb]; have := hf.1; omega) o2.1 o2.2.1
  refine ⟨σ1, r1, ⟨r2.1, MC.cong r2.2.1 rfl rfl (fun a ha => ?_) (fun a ha => ?_) rfl, hΛ, stS_ok hΛ hs hb hp o2⟩, r3⟩
  · rw [movS_P, o3, o5]
    show (if a = b then onX p else sP s a) = (if a = b then reachT Λ (stO s b o) b w false else if a = 8 then 36 else if a = b then onX o else sP s a)
    by_cases q : a = b
    · rw [if_pos q, if_pos q, o3]
    · rw [if_neg q, if_neg q, if_neg (show ¬ a = 8 by omega), if_neg q]
  · unfold stO
    rw [kdN_st hE (by omega) (by omega)]
    unfold kdN kdS
    show _ = (if lKd Λ a = 2 ∧ (turnE Λ b (onX p) (setE (sE s) b (onE o))).testBit a = true then 1 else lKd Λ a)
    rw [turnE_bit, setE_bit hE (by omega) (by omega)]
    by_cases q : a = b
    · rw [if_pos q, if_pos q, q, o6, ← o3]
      simp
    · rw [if_neg q, if_neg q]
      simp [q]
theorem cmO_lt {o : Nat} : cmO Λ b o < 72 := by
  unfold cmO onX
  split <;> omega
theorem nar1 : vp_nar .boolean (1 : Int32) = 1 := rfl
theorem nar0 : vp_nar .boolean (0 : Int32) = 0 := rfl
def addW (σ : Sg) (m n : Nat) (x k f q w : Int32) : Sg := up (up (up (up (up (up (up σ 86 m 1) 81 n x) 82 n k) 83 n f) 84 n q) 85 n w) 80 7 (nI (n + 1))
theorem addW_fr {m n : Nat} {x k f q w : Int32} : Fr (fun a => 80 ≤ a ∧ a ≤ 86) σ (addW σ m n x k f q w) := by
  unfold addW
  exact Fr.up (P := fun a => 80 ≤ a ∧ a ≤ 86) (Fr.up (P := fun a => 80 ≤ a ∧ a ≤ 86) (Fr.up (P := fun a => 80 ≤ a ∧ a ≤ 86) (Fr.up (P := fun a => 80 ≤ a ∧ a ≤ 86) (Fr.up (P := fun a => 80 ≤ a ∧ a ≤ 86) (Fr.up (P := fun a => 80 ≤ a ∧ a ≤ 86) (Fr.up (P := fun a => 80 ≤ a ∧ a ≤ 86) Fr.rf ⟨by decide, by decide⟩) ⟨by decide, by decide⟩) ⟨by decide, by decide⟩) ⟨by decide, by decide⟩) ⟨by decide, by decide⟩) ⟨by decide, by decide⟩) ⟨by decide, by decide⟩
theorem jc_wadd {o n : Nat} {f q w : Int32} (h : CC σ 87 Λ (stO s b o)) (hs : SOK Λ s) (hb : b < lNb Λ) (h7 : σ 80 7 = nI n) : (¬ σ 86 (cmO Λ b o) = 0 → J_X6_add (nI b) f q w σ = some ((), σ)) ∧ (σ 86 (cmO Λ b o) = 0 → n < 72 → J_X6_add (nI b) f q w σ = some ((), addW σ (cmO Λ b o) n (nI (onX o)) (nI (kdS Λ b (onE o))) f q w)) := by
  have n8 := h.nb8
  have hΛ := h.2.2.1
  have hk3 := (hΛ.2.2.2.2.2.2.2.1 b hb).1
  have x36 : onX o < 36 := Nat.mod_lt _ (by decide)
  have cm := @cmO_lt Λ b o
  have pb : sP (stO s b o) b = onX o := if_pos rfl
  have kb : kdN Λ (stO s b o) b = kdS Λ b (onE o) := by unfold stO; rw [kdN_st hs.2.2.2.2 (by omega) (by omega), if_pos rfl]
  have k3 := @kdS_eq Λ b (onE o) hk3
  have key : J_X6_add (nI b) f q w σ = J_X6_add_b32 (nI b) f q w (nI (onX o)) (nI (cmO Λ b o)) σ := by
    unfold J_X6_add
    rw [jc_placeOf h hb, bd1_s, jc_kindOf h hb, bd1_s, pb, kb, plI_of (by omega)]
    unfold cmO
    by_cases e : lKd Λ b = 2 ∧ onE o = false
    · have e2 : kdS Λ b (onE o) = 2 := by unfold kdS; rw [e.2, if_neg (by simp)]; exact e.1
      rw [if_pos (neq li_2 e2), if_pos e, show nI (onX o) + (36 : Int32) = nI (onX o + 36) from by rw [li_36, nI_add]]
    · have e2 : ¬ kdS Λ b (onE o) = 2 := by
        unfold kdS
        intro z
        cases q : onE o
        · rw [q] at z e
          rw [if_neg (by simp)] at z
          exact e ⟨z, rfl⟩
        · rw [q] at z
          by_cases y : lKd Λ b = 2
          · rw [if_pos ⟨y, rfl⟩] at z; omega
          · rw [if_neg (fun u => y u.1)] at z; exact y z
      rw [if_neg (nne li_2 (by omega) (by omega) e2), if_neg e]
  rw [key]
  unfold J_X6_add_b32
  rw [if_neg (nI_nlt0 (by omega)), if_neg (show ¬ (72 : Int32) ≤ nI (cmO Λ b o) from by rw [li_72, nI_leI (by omega) (by omega)]; omega), if_pos ((inb_nI (by omega)).mpr cm), nI_clamp (n := cmO Λ b o) (by omega)]
  refine ⟨fun e => by rw [if_neg e], fun e hn => ?_⟩
  have i72 : inb (nI n) 72 = true := (inb_nI (by omega)).mpr hn
  have k1 : ∀ v x, J_X2_kindOf 87 (nI b) (up (up σ 86 (cmO Λ b o) v) 81 n x) = some (nI (kdS Λ b (onE o))) := fun v x => by
    rw [← kb]
    exact jc_kindOf ⟨LC.up (by decide) (LC.up (by decide) h.1), (h.2.1.upo (by decide)).upo (by decide), hΛ, h.2.2.2⟩ hb
  rw [if_pos e, h7, if_neg (nI_nlt0 (by omega)), if_pos (show nI n < (72 : Int32) from by rw [li_72, nI_ltI (by omega) (by omega)]; exact hn)]
  simp only [nar1, up_n (show (80 : Nat) ≠ 86 by decide), up_n (show (80 : Nat) ≠ 81 by decide), up_n (show (80 : Nat) ≠ 82 by decide), up_n (show (80 : Nat) ≠ 83 by decide), up_n (show (80 : Nat) ≠ 84 by decide), up_n (show (80 : Nat) ≠ 85 by decide), h7, nI_clamp (show n < 2 ^ 31 by omega), i72, ↓reduceIte, k1, bd1_s]
  rw [if_pos ((inb_nI (by omega)).mpr cm), show nI n + (1 : Int32) = nI (n + 1) from by rw [li_1, nI_add]]
  rfl
end WALK3
