/-! call: game -/
section GAME3
variable {σ : Sg} {D : Nat} {Λ : LT} {s : ST}
theorem jm_gmNode {n : Nat} (hn : n ≤ 3) (hΛ : LOK Λ) : ∀ (m L : Nat) (s : ST) (k : Nat) (f : Int32) (σ : Sg), L + m = n → SOK Λ s → sD s + m < 2 ^ 27 → gmC m ≤ k → LM σ Λ → MM σ 162 (54 * L) Λ s → σ 163 L = -1 → ∃ k' σ' f', k ≤ k' + gmC m ∧ J_X8_plays_b27 k (nI n) (nI L) f σ = J_X8_plays_b167 (fun x1 x2 x3 σ => J_X8_plays_b27 k' x1 x2 x3 σ) (nI n) (nI L) f' (gmV Λ m s).2 σ' ∧ Fs (GL L) σ σ' ∧ (L ≠ 0 → f' = f) ∧ (L = 0 → 1 ≤ m → lostI Λ s = 0 → f' = (gmV Λ m s).1) := by
  intro m
  have over : ∀ (m L : Nat) (s : ST) (k : Nat) (f : Int32) (σ : Sg), L ≤ 3 → SOK Λ s → 1 ≤ gmC m → gmC m ≤ k → LM σ Λ → MM σ 162 (54 * L) Λ s → (L = n ∨ (L ≠ n ∧ lostI Λ s ≠ 0)) → ∃ k' σ', k ≤ k' + gmC m ∧ J_X8_plays_b27 k (nI n) (nI L) f σ = J_X8_plays_b167 (fun x1 x2 x3 σ => J_X8_plays_b27 k' x1 x2 x3 σ) (nI n) (nI L) f (worI Λ s) σ' ∧ Fs (GL L) σ σ' := by
    intro m L s k f σ hL hs hm hk hLM hM ho
    obtain ⟨k, rfl⟩ : ∃ i, k = i + 1 := ⟨k - 1, by omega⟩
    obtain ⟨σ1, r1, r2, r3⟩ := jm_copyRow (A := 157) (B := 162) (o1 := 0) (o2 := 54 * L) (by decide) (by decide) hΛ hM (by decide) (show 54 * L + 54 ≤ 324 by omega) (by decide) (by omega)
    have f1 : Fs Wt σ σ1 := r3.mono fun a j z => Or.inl z.1
    have h1 : MS σ1 Λ s := ⟨hLM.wt f1, r2, hΛ, hs⟩
    have b62 : J_X8_plays_b62 (fun x1 x2 x3 σ => J_X8_plays_b27 k x1 x2 x3 σ) (nI n) (nI L) f 1 σ1 = J_X8_plays_b167 (fun x1 x2 x3 σ => J_X8_plays_b27 k x1 x2 x3 σ) (nI n) (nI L) f (worI Λ s) σ1 := by
      unfold J_X8_plays_b62
      rw [if_neg n10]
      unfold J_X8_plays_b95
      rw [if_pos (show (100 : Int32) = 100 from rfl), if_neg n10, jm_worth h1, bd1_s]
    refine ⟨k, σ1, by omega, ?_, f1.mono fun _ _ z => Or.inl z⟩
    rw [J_X8_plays_b27, show (54 : Int32) * nI L = nI (54 * L) from by rw [li_54, nI_mul], show J_X8_copies 157 0 162 (nI (54 * L)) 54 σ = _ from r1, bd2_s]
    rcases ho with z | ⟨z1, z2⟩
    · rw [if_pos (by rw [z])]
      exact b62
    · rw [if_neg (fun z => by have := (nI_inj (by omega) (by omega)).mp z; omega), jm_lost h1, bd1_s, if_neg z2]
      exact b62
  induction m with
  | zero =>
    intro L s k f σ hL hs hd hk hLM hM ht
    obtain ⟨k', σ', o1, o2, o3⟩ := over 0 L s k f σ (by omega) hs (by decide) hk hLM hM (Or.inl (by omega))
    exact ⟨k', σ', f, o1, o2, o3, fun _ => rfl, fun _ z => absurd z (by decide)⟩
  | succ m ih =>
    intro L s k f σ hL hs hd hk hLM hM ht
    by_cases e : lostI Λ s = 0
    · have gv : gmV Λ (m + 1) s = gmF (fun s' => (gmV Λ m s').2) Λ s 100 0 (-4, 0) := by rw [gmV, if_pos e]
      obtain ⟨k', σ', f', o1, o2, o3, o4, o5⟩ := jm_gmLoop (n := n) (L := L) (m := m) hn (by omega) hΛ hs e (by omega) (fun s' k f σ z1 z2 z3 z4 z5 z6 => by
        obtain ⟨k', σ', f', y1, y2, y3, y4, y5⟩ := ih (L + 1) s' k f σ (by omega) z1 z2 z3 z4 z5 z6
        rw [y4 (Nat.succ_ne_zero L)] at y2
        exact ⟨k', σ', y1, y2, y3⟩) 100 0 k (-4, 0) f σ rfl hk hLM hM (by rw [ht]; decide) (Or.inl ⟨rfl, Nat.zero_le _⟩)
      rw [← gv] at o2 o5
      exact ⟨k', σ', f', o1, o2, o3, o4, fun z _ _ => o5 z⟩
    · have gv : gmV Λ (m + 1) s = (-4, worI Λ s) := by rw [gmV, if_neg e]
      obtain ⟨k', σ', o1, o2, o3⟩ := over (m + 1) L s k f σ (by omega) hs (by unfold gmC; omega) hk hLM hM (Or.inr ⟨by omega, e⟩)
      rw [gv]
      exact ⟨k', σ', f, o1, o2, o3, fun _ => rfl, fun _ _ z => absurd z e⟩
theorem jm_plays {n : Nat} (hn1 : 1 ≤ n) (hn : n ≤ 3) (hΛ : LOK Λ) (hs : SOK Λ s) (hd : sD s < 2 ^ 26) (hl : lostI Λ s = 0) (hL : LM σ Λ) (hM : MM σ 146 0 Λ s) : ∃ σ', J_X8_plays (nI n) σ = some ((gmV Λ n s).2, σ') ∧ σ' 163 5 = (gmV Λ n s).1 ∧ Fs Wk σ σ' := by
  obtain ⟨σ1, r1, r2, r3⟩ := jm_copyRow (A := 162) (B := 146) (o1 := 0) (o2 := 0) (by decide) (by decide) hΛ hM (by decide) (by decide) (by decide) (by decide)
  have cost : gmC n ≤ FU := by
    rcases (show n = 1 ∨ n = 2 ∨ n = 3 by omega) with z | z | z <;> rw [z] <;> decide
  obtain ⟨k', σ2, f', o1, o2, o3, o4, o5⟩ := jm_gmNode hn hΛ n 0 s FU 99 (up σ1 163 0 (-1)) (by omega) hs (by omega) cost ((hL.frs r3 fun a j z1 z2 z3 w => by have := w.1; omega).up (by decide)) (r2.upo (by decide)) up_s
  refine ⟨up σ2 163 5 f', ?_, ?_, ?_⟩
  · unfold J_X8_plays
    rw [show J_X8_copies 162 0 146 0 54 σ = _ from r1, bd2_s, show J_X8_plays_b27 FU (nI n) 0 99 (up σ1 163 0 (-1)) = _ from o2]
    unfold J_X8_plays_b167
    rw [if_pos (show nI 0 = 0 from rfl)]
  · rw [up_s]; exact o5 rfl hn1 hl
  · refine Fs.up (P := Wk) (Fs.tr (Fs.up (P := Wk) (r3.mono fun a j z => Or.inr (Or.inr (Or.inl (by omega)))) (Or.inr (Or.inr (Or.inl (by decide))))) (o3.mono fun a j z => ?_)) (Or.inr (Or.inr (Or.inl (by decide))))
    have := z.no
    rcases this with w | w | w | w | w
    · exact Or.inr (Or.inr (Or.inl (by omega)))
    · exact Or.inr (Or.inr (Or.inr (Or.inl ⟨w.1, by omega⟩)))
    · exact Or.inr (Or.inr (Or.inl (by omega)))
    · exact Or.inr (Or.inr (Or.inl (by omega)))
    · exact Or.inr (Or.inr (Or.inl (by omega)))
theorem cl_game (h : Psi D σ) (hD : D < 2 ^ 20) (a b : Int32) : ∃ r σ1 σ2, J_X7_game a b σ = some (r, σ1) ∧ J_X8_game a b σ1 = some (r, σ2) ∧ Psi D σ2 := by
  have h0 := h
  obtain ⟨Λ, s, n, o, P, T, q, K, t, h1, h2, -, -, -⟩ := h
  have hΛ := h1.2.2
  have hc := h2.cc h1
  have hd := h2.2.2.2
  rcases i_cases a (show 4 < 2 ^ 31 by decide) with ⟨m, hm, rfl⟩ | ha
  · by_cases m0 : m = 0
    · refine ⟨-1, σ, σ, ?_, ?_, h0⟩
      · unfold J_X7_game
        rw [if_pos (show nI m < (1 : Int32) from by rw [m0]; decide)]
      · unfold J_X8_game
        rw [m0, show J_X8_in (nI 0) 1 3 σ = some 0 from rfl, bd1_s, if_pos z00]
    · have nm : ∀ σ, J_X8_in (nI m) 1 3 σ = some 1 := fun σ => jm_in1 (lo := 1) (hi := 3) (by omega) (by omega) (by omega)
      have c1 : ¬ nI m < (1 : Int32) := by rw [li_1, nI_ltI (by omega) (by omega)]; omega
      have c2 : ¬ (3 : Int32) < nI m := by rw [li_3, nI_ltI (by omega) (by omega)]; omega
      rcases i_cases b (show 2 < 2 ^ 31 by decide) with ⟨w, hw, rfl⟩ | hb
      · have ww := what1 (show w ≤ 1 by omega)
        by_cases e : lostI Λ s = 0
        · obtain ⟨σ1, r1, r2, r3⟩ := jc_level0 h1 h2
          obtain ⟨σ2, t1, t2, t3⟩ := jc_gm (n := m) (by omega) m 0 FR s σ1 (by omega) (show m < 12 by omega) (by omega) r2
          have f2 : Fs Wk σ σ2 := (ahead_wk r3).tr (t3.fs fun a j z => by
            have z' : a = 92 ∨ (95 + 4 < a ∧ a ≤ 140) := z
            exact Or.inr (Or.inl ⟨by omega, by omega⟩))
          have g1 := h1.fr f2
          have g2 := h2.fr hΛ f2
          obtain ⟨σ3, y1, y2, y3⟩ := g2.as g1
          have g3 := g2.fr hΛ y3.wk
          obtain ⟨σ4, x1, x2, x3⟩ := jm_plays (n := m) (by omega) (by omega) hΛ h2.2.2.1 (by omega) e y2.1 g3.2.1
          refine ⟨if nI w = 0 then (gmV Λ m s).2 + 100 else (gmV Λ m s).1, σ2, σ4, ?_, ?_, h0.fr (f2.tr (y3.wk.tr x3))⟩
          · unfold J_X7_game
            rw [if_neg c1, if_neg c2, if_neg ww.1, if_pos ww.2, jc_lost hc, bd1_s, if_pos e]
            unfold J_X0_worthBehind
            rw [show J_X4_get 94 0 σ = some 95 from rfl, bd1_s, r1, bd2_s, show J_X0_worthFrom FR 0 (nI m) σ1 = _ from t1, bd2_s, bd2_s, t2 (by omega) e]
            by_cases w0 : nI w = 0
            · rw [if_pos w0, if_pos w0]
            · rw [if_neg w0, if_neg w0]
          · unfold J_X8_game
            rw [nm, bd1_s, if_neg n10, in01 (by omega), bd1_s, if_neg n10, y1, bd2_s, jm_lost y2, bd1_s, if_pos e, x1, bd2_s, x2, Int32.add_comm]
            by_cases w0 : nI w = 0
            · rw [if_pos w0, if_pos w0]
            · rw [if_neg w0, if_neg w0]
        · obtain ⟨σ3, y1, y2, y3⟩ := h2.as h1
          refine ⟨-2, σ, σ3, ?_, ?_, h0.fr y3.wk⟩
          · unfold J_X7_game
            rw [if_neg c1, if_neg c2, if_neg ww.1, if_pos ww.2, jc_lost hc, bd1_s, if_neg e]
          · unfold J_X8_game
            rw [nm, bd1_s, if_neg n10, in01 (by omega), bd1_s, if_neg n10, y1, bd2_s, jm_lost y2, bd1_s, if_neg e]
      · refine ⟨-1, σ, σ, ?_, ?_, h0⟩
        · unfold J_X7_game
          rw [if_neg c1, if_neg c2]
          rcases hb with z | z
          · rw [if_pos z]
          · rw [if_neg (what0 z).1, if_neg (what0 z).2]
        · unfold J_X8_game
          rw [nm, bd1_s, if_neg n10, in01_0 hb, bd1_s, if_pos z00]
  · refine ⟨-1, σ, σ, ?_, ?_, h0⟩
    · unfold J_X7_game
      rcases ha with z | z
      · rw [if_pos (show a < (1 : Int32) from lt0_lt (n := 1) (by decide) z)]
      · rw [if_neg (show ¬ a < (1 : Int32) from Int32.not_lt.mpr (Int32.le_of_lt (ge_lt (m := 1) (n := 4) (by decide) (by decide) z))), if_pos (show (3 : Int32) < a from ge_lt (m := 3) (n := 4) (by decide) (by decide) z)]
    · unfold J_X8_game
      rw [show J_X8_in a 1 3 σ = some 0 from jm_in0 (lo := 1) (hi := 3) (n := 4) (by decide) (by decide) (by decide) ha, bd1_s, if_pos z00]
end GAME3
