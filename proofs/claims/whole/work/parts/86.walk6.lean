/-! all that one can come to: the model's loops -/
theorem setE_id : ∀ E, E < 256 → ∀ b, b < 8 → setE E b (E.testBit b) = E := by decide +kernel
section WALK6
variable {σ : Sg} {Λ : LT} {s : ST} {b o0 : Nat}
theorem turn_set {E x : Nat} {e : Bool} : turnE Λ b x (setE E b e) = setE E b (e || (decide (lKd Λ b = 2) && endN Λ (lVl Λ b) x)) := by
  unfold turnE setE
  by_cases h : lKd Λ b = 2 ∧ endN Λ (lVl Λ b) x = true
  · rw [if_pos h]
    have q : (decide (lKd Λ b = 2) && endN Λ (lVl Λ b) x) = true := by simp [h.1, h.2]
    rw [q, Bool.or_true, if_pos rfl]
    cases e
    · rw [if_neg (by decide)]
    · rw [if_pos rfl, Nat.or_assoc, Nat.or_self]
  · rw [if_neg h]
    have q : (decide (lKd Λ b = 2) && endN Λ (lVl Λ b) x) = false := by
      cases y : (decide (lKd Λ b = 2) && endN Λ (lVl Λ b) x)
      · rfl
      · simp at y; exact absurd y h
    rw [q, Bool.or_false]
theorem jm_str79 (hΛ : LOK Λ) (hs : SOK Λ s) (hb : b < lNb Λ) (hp : sP s b ≠ 36) (hd : sD s < 2 ^ 28) {most : Nat} (hm : most < 100) (y58 : Int32 → Int32 → Int32 → Int32 → Sg → Option (Unit × Sg)) {i : Nat} : ∀ (k w j : Nat) (t : WT) (σ : Sg), w + k = 4 → k < j → INV Λ s b o0 i t → MW σ t → (∃ o, MS σ Λ (stO s b o)) → tF t i < most → ∃ σ', J_X8_strays_b79 y58 j (nI b) (nI most) (nI (clrE (sE s) b)) (nI i) (nI (tW t i)) (nI w) σ = y58 (nI b) (nI most) (nI (clrE (sE s) b)) (nI (i + 1)) σ' ∧ MW σ' (wayT Λ s b i k w t) ∧ (∃ o, MS σ' Λ (stO s b o)) ∧ Fs Wy σ σ' := by
  have n8 := hΛ.2.2.1.2
  have h36 := hΛ.sq.2.1
  have hE := hs.2.2.2.2
  have cl := clrE_all (sE s) hE b (by omega)
  intro k
  induction k with
  | zero =>
    intro w j t σ hk hj hv hc ho hf
    obtain ⟨j, rfl⟩ : ∃ i, j = i + 1 := ⟨j - 1, by omega⟩
    refine ⟨σ, ?_, hc, ho, Fs.rf⟩
    have sl := @seenN_le t
    have hi := hv.2.2.1
    have hn := hv.2.1
    rw [J_X8_strays_b79, if_pos (show (4 : Int32) ≤ nI w from by rw [li_4, nI_leI (by omega) (by omega)]; omega), show nI i + (1 : Int32) = nI (i + 1) from by rw [li_1, nI_add]]
  | succ k ih =>
    intro w j t σ hk hj hv hc ho hf
    obtain ⟨j, rfl⟩ : ∃ i, j = i + 1 := ⟨j - 1, by omega⟩
    obtain ⟨o, ho⟩ := ho
    have sl := @seenN_le t
    have hi := hv.2.2.1
    have hn := hv.2.1
    obtain ⟨w1, w2, w3⟩ := hv.1.2.2.2.1 i hi
    have fl := hv.1.F_le i hi
    have a1 : nI w + (1 : Int32) = nI (w + 1) := by rw [li_1, nI_add]
    have i72 : inb (nI (tW t i)) 72 = true := (inb_nI (by omega)).mpr w1
    have x36 : onX (tW t i) < 36 := Nat.mod_lt _ (by decide)
    obtain ⟨d1, d2⟩ := hc.2.1 i hi
    -- the beast is set on the stand
    have set : ∀ ww : Int32, (nI (clrE (sE s) b) ||| ww) = nI (setE (sE s) b (onE (tW t i))) → MS (up (up σ 157 (37 + b) (nI (onX (tW t i)))) 157 53 (nI (clrE (sE s) b) ||| ww)) Λ (stO s b (tW t i)) := by
      intro ww hw
      rw [hw]
      have m1 := MM.upE (e := setE (sE s) b (onE (tW t i))) (MM.upP (v := onX (tW t i)) ho.2.1 h36 n8 hb) h36 n8
      unfold stO at m1 ⊢
      rw [stS_st] at m1
      exact ⟨LM.up (by decide) (LM.up (by decide) ho.1), m1, hΛ, stS_ok hΛ hs hb hp w2⟩
    have b131 : ∀ ww : Int32, (nI (clrE (sE s) b) ||| ww) = nI (setE (sE s) b (onE (tW t i))) → ∃ σ', J_X8_strays_b131 y58 (fun x1 x2 x3 x4 x5 x6 σ => J_X8_strays_b79 y58 j x1 x2 x3 x4 x5 x6 σ) (nI b) (nI most) (nI (clrE (sE s) b)) (nI i) (nI (tW t i)) (nI w) ww (nI (clrE (sE s) b)) (53 : Int32) (up σ 157 (37 + b) (nI (onX (tW t i)))) = y58 (nI b) (nI most) (nI (clrE (sE s) b)) (nI (i + 1)) σ' ∧ MW σ' (wayT Λ s b i k (w + 1) (nxT Λ s b i w t)) ∧ (∃ o, MS σ' Λ (stO s b o)) ∧ Fs Wy σ σ' := by
      intro ww hw
      have h1 := set ww hw
      have f1 : Fs Wt σ (up (up σ 157 (37 + b) (nI (onX (tW t i)))) 157 53 (nI (clrE (sE s) b) ||| ww)) := Fs.up (P := Wt) (Fs.up (P := Wt) Fs.rf (Or.inl rfl)) (Or.inl rfl)
      unfold J_X8_strays_b131
      rw [if_pos (show inb (53 : Int32) 54 = true from by decide), show (53 : Int32).toNatClampNeg = 53 from by decide]
      generalize up (up σ 157 (37 + b) (nI (onX (tW t i)))) 157 53 (nI (clrE (sE s) b) ||| ww) = σ1 at h1 f1 ⊢
      have c1 := hc.wt f1
      have pb : sP (stO s b (tW t i)) b = onX (tW t i) := if_pos rfl
      have cm := jm_comesTo h1 (show sD s < 2 ^ 30 by omega) hb (by rw [pb]; omega) (show w < 4 by omega) false
      have mt : mtN Λ (stO s b (tW t i)) b false = false := by unfold mtN; rfl
      rw [mt] at cm
      rw [show J_X8_comesTo (nI b) (nI w) 0 σ1 = _ from cm, bd2_s, a1]
      have h2 : MS (up σ1 141 32 (takT Λ (stO s b (tW t i)) b w false)) Λ (stO s b (tW t i)) := h1.up32
      have f2 : Fs Wt σ (up σ1 141 32 (takT Λ (stO s b (tW t i)) b w false)) := Fs.up (P := Wt) f1 (Or.inr ⟨rfl, rfl⟩)
      generalize up σ1 141 32 (takT Λ (stO s b (tW t i)) b w false) = σ2 at h2 f2 ⊢
      have c2 := hc.wt f2
      cases q : nbT Λ s b (tW t i) w with
      | none =>
        have e36 : reachT Λ (stO s b (tW t i)) b w false = 36 := by
          unfold nbT at q
          by_cases e : reachT Λ (stO s b (tW t i)) b w false = 36
          · exact e
          · rw [if_neg e] at q; exact absurd q (by simp)
        have nx : nxT Λ s b i w t = t := by unfold nxT; rw [q]
        rw [nx, e36, if_pos (show plI 36 < 0 from by decide)]
        obtain ⟨σ3, t1, t2, t3, t4⟩ := ih (w + 1) j t σ2 (by omega) (by omega) hv c2 ⟨_, h2⟩ hf
        exact ⟨σ3, t1, t2, t3, (f2.mono fun _ _ z => z.wy).tr t4⟩
      | some p =>
        obtain ⟨p1, p2, p3, p4, p5, p6, p7⟩ := nbT_ok hΛ hs hb hp w2 (show w < 4 by omega) q
        obtain ⟨nv, ag, nf⟩ := nxT_ok hΛ hs hb hp hv (show w < 4 by omega)
        have nx : nxT Λ s b i w t = addT t p (tF t i + 1) i w := by unfold nxT; rw [q]
        rw [nx] at nv ⊢
        have xp : onX p < 36 := Nat.mod_lt _ (by decide)
        rw [← p3, plI_of (by omega), if_neg (nI_nlt0 (by omega))]
        obtain ⟨σ3, v1, v2, v3, v4⟩ := jm_stands (x := onX p) h2.1 h2.2.1 hΛ h2.2.2.2.2.2.2.2 hb p2.1
        have h3 : MS σ3 Λ (stO s b p) := by
          refine ⟨v2, ?_, hΛ, stS_ok hΛ hs hb hp p2⟩
          have e : ewS (plS (stO s b (tW t i)) b (onX p)) (turnE Λ b (onX p) (sE (stO s b (tW t i)))) = stO s b p := by
            show ewS (plS (stO s b (tW t i)) b (onX p)) (turnE Λ b (onX p) (setE (sE s) b (onE (tW t i)))) = _
            rw [turn_set, show (onE (tW t i) || (decide (lKd Λ b = 2) && endN Λ (lVl Λ b) (onX p))) = onE p from by rw [p6, p3]]
            unfold stO
            exact stS_st
          rw [← e]
          exact v3
        have f3 : Fs Wt σ σ3 := f2.tr v4.wt
        have c3 := hc.wt f3
        have ip : inb (nI p) 72 = true := (inb_nI (by omega)).mpr p1
        rw [v1, bd2_s, jm_nowOne h3 hs hb p1, bd1_s]
        unfold J_X8_reaches
        rw [if_pos ip, nI_clamp (n := p) (by omega)]
        cases m : memT t p with
        | true =>
          have ad : addT t p (tF t i + 1) i w = t := by unfold addT; rw [if_pos m]
          obtain ⟨i', z1, z2⟩ := memT_iff.mp m
          have fl' := hv.1.F_le i' z1
          rw [← z2, (c3.2.1 i' z1).2, if_pos (nI_ge0 (by omega)), bd2_s, z2, ad]
          obtain ⟨σ4, t1, t2, t3, t4⟩ := ih (w + 1) j t σ3 (by omega) (by omega) hv c3 ⟨_, h3⟩ hf
          exact ⟨σ4, t1, t2, t3, (f3.mono fun _ _ z => z.wy).tr t4⟩
        | false =>
          have ad : addT t p (tF t i + 1) i w = appT t p (tF t i + 1) i w := by unfold addT; rw [if_neg (by rw [m]; decide)]
          have n72 := seenN_lt p1 m
          rw [ad] at nv ⊢
          rw [c3.2.2.2 p p1 m, if_neg (by decide), if_pos (nI_ge0 (show tW t i < 2 ^ 31 by omega)), if_pos i72, nI_clamp (n := tW t i) (by omega), (c3.2.1 i hi).2, show nI (tF t i) + (1 : Int32) = nI (tF t i + 1) from by rw [li_1, nI_add], jm_reach30 p1 (by omega) c3.1, bd2_s]
          have c4 := MW.app (f := tF t i + 1) (q := i) (w := w) hv.1 c3 p1 m hi
          have h4 : MS (addM σ3 p (tN t) (nI (tF t i + 1)) (nI (tW t i)) (nI w)) Λ (stO s b p) := addM_ms h3
          have ai := (@app_lt t p (tF t i + 1) i w i hi)
          obtain ⟨σ4, t1, t2, t3, t4⟩ := ih (w + 1) j _ _ (by omega) (by omega) nv c4 ⟨_, h4⟩ (by rw [ai.2.1]; exact hf)
          rw [ai.1] at t1
          exact ⟨σ4, t1, t2, t3, (f3.mono fun _ _ z => z.wy).tr (addM_fr.tr t4)⟩
    rw [J_X8_strays_b79, if_neg (show ¬ (4 : Int32) ≤ nI w from by rw [li_4, nI_leI (by omega) (by omega)]; omega), if_pos i72, nI_clamp (n := tW t i) (by omega), d2, if_neg (fun z => by have := (nI_leI (by omega) (by omega)).mp z; omega), show (37 : Int32) + nI b = nI (37 + b) from by rw [li_37, nI_add], if_pos ((inb_nI (by omega)).mpr (by omega)), nI_clamp (n := 37 + b) (by omega), show rmI (nI (tW t i)) (36 : Int32) = nI (onX (tW t i)) from by rw [li_36, rmI_nI (by omega) (by omega)]; rfl]
    show ∃ σ', _ ∧ MW σ' (wayT Λ s b i k (w + 1) (nxT Λ s b i w t)) ∧ _
    by_cases e : tW t i < 36
    · have oe : onE (tW t i) = false := by unfold onE; simp; omega
      rw [if_pos (show nI (tW t i) < (36 : Int32) from by rw [li_36, nI_ltI (by omega) (by omega)]; exact e)]
      exact b131 0 (by rw [or0, oe]; unfold setE; rw [if_neg (by decide)])
    · have oe : onE (tW t i) = true := by unfold onE; simp; omega
      rw [if_neg (show ¬ nI (tW t i) < (36 : Int32) from by rw [li_36, nI_ltI (by omega) (by omega)]; exact e)]
      exact b131 _ (by rw [or_nI _ cl.1 b (by omega), oe]; unfold setE; rw [if_pos rfl])
theorem jm_str58 (hΛ : LOK Λ) (hs : SOK Λ s) (hb : b < lNb Λ) (hp : sP s b ≠ 36) (hd : sD s < 2 ^ 28) {most : Nat} (hm : most < 100) : ∀ (k i j : Nat) (t : WT) (σ : Sg), 73 ≤ k + i → i ≤ 73 → k < j → INO Λ s b o0 i t → MW σ t → (∃ o, MS σ Λ (stO s b o)) → ∃ σ', J_X8_strays_b58 j (nI b) (nI most) (nI (clrE (sE s) b)) (nI i) σ = some ((), σ') ∧ MW σ' (outT Λ s b most k i t) ∧ Fs Wy σ σ' := by
  intro k
  induction k with
  | zero =>
    intro i j t σ hk hi2 hj hv hc ho
    obtain ⟨j, rfl⟩ : ∃ i, j = i + 1 := ⟨j - 1, by omega⟩
    have sl := @seenN_le t
    have hn := hv.2.1
    refine ⟨σ, ?_, hc, Fs.rf⟩
    rw [J_X8_strays_b58, hc.1, if_pos ((nI_leI (by omega) (by omega)).mpr (by omega))]
  | succ k ih =>
    intro i j t σ hk hi2 hj hv hc ho
    obtain ⟨j, rfl⟩ : ∃ i, j = i + 1 := ⟨j - 1, by omega⟩
    have sl := @seenN_le t
    have hn := hv.2.1
    unfold outT
    rw [J_X8_strays_b58, hc.1]
    by_cases e : tN t ≤ i
    · rw [if_pos ((nI_leI (by omega) (by omega)).mpr e), if_pos e]
      exact ⟨σ, rfl, hc, Fs.rf⟩
    · have fl := hv.1.F_le i (by omega)
      have hv2 : INV Λ s b o0 i t := ⟨hv.1, hn, by omega, hv.2.2 (by omega)⟩
      obtain ⟨w1, w2, w3⟩ := hv.1.2.2.2.1 i (by omega)
      obtain ⟨d1, d2⟩ := hc.2.1 i (by omega)
      rw [if_neg (fun z => e ((nI_leI (by omega) (by omega)).mp z)), if_pos ((inb_nI (by omega)).mpr (by omega)), nI_clamp (by omega), d1, if_neg e]
      by_cases em : most ≤ tF t i
      · rw [if_pos em, FU_eq]
        show ∃ σ', J_X8_strays_b79 _ (999999999999999 + 1) _ _ _ _ _ _ _ = _ ∧ _
        rw [J_X8_strays_b79, if_neg (by decide), if_pos ((inb_nI (by omega)).mpr w1), nI_clamp (by omega), d2, if_pos ((nI_leI (by omega) (by omega)).mpr em), show nI i + (1 : Int32) = nI (i + 1) from by rw [li_1, nI_add]]
        exact ih (i + 1) j t σ (by omega) (by omega) (by omega) (hv.nx' (by omega)) hc ho
      · rw [if_neg em]
        obtain ⟨σ1, r1, r2, r3, r4⟩ := jm_str79 hΛ hs hb hp hd hm (fun x1 x2 x3 x4 σ => J_X8_strays_b58 j x1 x2 x3 x4 σ) 4 0 FU t σ rfl (by rw [FU_eq]; decide) hv2 hc ho (by omega)
        obtain ⟨a1, a2, a3⟩ := wayT_ok hΛ hs hb hp 4 0 t rfl hv2
        obtain ⟨σ2, t1, t2, t3⟩ := ih (i + 1) j _ σ1 (by omega) (by omega) (by omega) (INO.nx (t' := t) a1) r2 r3
        refine ⟨σ2, ?_, t2, r4.tr t3⟩
        rw [show J_X8_strays_b79 (fun x1 x2 x3 x4 σ => J_X8_strays_b58 j x1 x2 x3 x4 σ) FU (nI b) (nI most) (nI (clrE (sE s) b)) (nI i) (nI (tW t i)) 0 σ = _ from r1]
        exact t1
theorem jm_str2 {x2 : Int32} : ∀ (k i j : Nat) (σ : Sg), i + k = 72 → k < j → ∃ σ', J_X8_strays_b2 j (nI b) x2 (nI i) σ = (bd2 (J_X8_asItIs (up σ' 141 37 (0 : Int32))) fun r27 s27 => (bd1 (J_X8_nowOne (nI b) s27) fun r47 => (bd2 (J_X8_reaches r47 (-1 : Int32) (0 : Int32) s27) fun r52 s52 => (J_X8_strays_b58 FU (nI b) x2 ((s27 157 53) &&& (((1 : Int32) <<< ((nI b) &&& 31)) ^^^ (-1 : Int32))) (0 : Int32) s52)))) ∧ (∀ m, i ≤ m → m < 72 → σ' 159 m = -1) ∧ (∀ m, m < i → σ' 159 m = σ 159 m) ∧ Fr (fun a => a = 159) σ σ' := by
  intro k
  induction k with
  | zero =>
    intro i j σ hi hj
    obtain ⟨j, rfl⟩ : ∃ i, j = i + 1 := ⟨j - 1, by omega⟩
    refine ⟨σ, ?_, fun m h1 h2 => by omega, fun _ _ => rfl, Fr.rf⟩
    rw [J_X8_strays_b2, if_pos (show (72 : Int32) ≤ nI i from by rw [li_72, nI_leI (by omega) (by omega)]; omega)]
  | succ k ih =>
    intro i j σ hi hj
    obtain ⟨j, rfl⟩ : ∃ i, j = i + 1 := ⟨j - 1, by omega⟩
    rw [J_X8_strays_b2, if_neg (show ¬ (72 : Int32) ≤ nI i from by rw [li_72, nI_leI (by omega) (by omega)]; omega), if_pos ((inb_nI (by omega)).mpr (by omega)), nI_clamp (by omega), show nI i + (1 : Int32) = nI (i + 1) from by rw [li_1, nI_add]]
    obtain ⟨σ', r1, r2, r3, r4⟩ := ih (i + 1) j (up σ 159 i (-1)) (by omega) (by omega)
    refine ⟨σ', r1, fun m h1 h2 => ?_, fun m hm => ?_, (Fr.up (P := fun a => a = 159) Fr.rf rfl).tr r4⟩
    · by_cases e : m = i
      · rw [e, r3 i (by omega), up_s]
      · exact r2 m (by omega) h2
    · rw [r3 m (by omega), up_i (by omega)]
theorem jm_strays (hL : LM σ Λ) (hΛ : LOK Λ) (hs : SOK Λ s) (hM : MM σ 146 0 Λ s) (hb : b < lNb Λ) (hp : sP s b ≠ 36) (hd : sD s < 2 ^ 28) {most : Nat} (hm : most < 100) : ∃ σ', J_X8_strays (nI b) (nI most) σ = some ((), σ') ∧ MW σ' (allT Λ s b most) ∧ Fs Wy σ σ' := by
  have n8 := hΛ.2.2.1.2
  have hE := hs.2.2.2.2
  obtain ⟨o1, o2, o3, o4⟩ := o0_x hΛ hs hb hp
  obtain ⟨σ1, r1, r2, r3, r4⟩ := @jm_str2 b (nI most) 72 0 FU σ rfl (by rw [FU_eq]; decide)
  have f1 : Fs Wy σ (up σ1 141 37 0) := Fs.up (P := Wy) (r4.fs fun a j z => Or.inr (Or.inr ⟨by omega, by omega⟩)) (Or.inr (Or.inl ⟨rfl, Or.inr rfl⟩))
  have L1 : LM (up σ1 141 37 0) Λ := by
    refine LM.frs (P := fun a j => a = 159 ∨ (a = 141 ∧ j = 37)) hL (Fs.up (P := fun a j => a = 159 ∨ (a = 141 ∧ j = 37)) (r4.fs fun a j z => Or.inl z) (Or.inr ⟨rfl, rfl⟩)) fun a j z1 z2 z3 w => by omega
  have M1 : MM (up σ1 141 37 0) 146 0 Λ s := (MM.fr hM (r4 146 (by decide))).upo (by decide)
  have z37 : (up σ1 141 37 0) 141 37 = nI 0 := up_s
  have z159 : ∀ m, m < 72 → (up σ1 141 37 0) 159 m = -1 := fun m h => by rw [up_n (by decide)]; exact r2 m (Nat.zero_le _) h
  generalize up σ1 141 37 0 = σ2 at f1 L1 M1 z37 z159 r1
  obtain ⟨σ3, y1, y2, y3⟩ := jm_asItIs L1 hΛ hs M1
  have wt157 : ∀ a j, Wt a j → a = 157 ∨ (a = 141 ∧ j = 32) := fun _ _ z => z
  have w37 : σ3 141 37 = nI 0 := by rw [y3 141 37 (fun z => by have := wt157 _ _ z; omega)]; exact z37
  have w159 : ∀ m, m < 72 → σ3 159 m = -1 := fun m h => by rw [y3 159 m (fun z => by have := wt157 _ _ z; omega)]; exact z159 m h
  have no : J_X8_nowOne (nI b) σ3 = some (nI (o0N s b)) := by
    unfold J_X8_nowOne o0N
    have hx : sP s b < 36 := by have := o4.1; rw [o2] at this; have := hΛ.sq.2.1; omega
    rw [show (37 : Int32) + nI b = nI (37 + b) from by rw [li_37, nI_add], if_pos ((inb_nI (by omega)).mpr (by omega)), nI_clamp (by omega), y2.pl hb, y2.ew, jm_has σ3 hE (by omega), bd1_s]
    cases (sE s).testBit b
    · rw [if_neg (show ¬ false = true by decide), if_pos z00, ad0, if_neg (show ¬ false = true by decide)]; rfl
    · rw [if_pos (show true = true from rfl), if_neg n10, if_pos (show true = true from rfl), show nI (sP s b) + (36 : Int32) = nI (sP s b + 36) from by rw [li_36, nI_add]]
  have re : J_X8_reaches (nI (o0N s b)) (-1) 0 σ3 = some ((), addM σ3 (o0N s b) 0 0 (-1) 0) := by
    unfold J_X8_reaches
    rw [if_pos ((inb_nI (by omega)).mpr o1), nI_clamp (by omega), w159 _ o1, if_neg (by decide), if_neg (by decide)]
    exact jm_reach30 o1 (by decide) w37
  have ew : σ3 157 53 &&& (((1 : Int32) <<< ((nI b) &&& 31)) ^^^ (-1 : Int32)) = nI (clrE (sE s) b) := by rw [y2.ew]; exact (clrE_all (sE s) hE b (by omega)).2.1
  have m0 : MW (addM σ3 (o0N s b) 0 0 (-1) 0) (t0 (o0N s b)) := by
    unfold addM
    refine ⟨up_s, fun i hi => ?_, fun i h1 hi => ?_, fun m hm1 hm2 => ?_⟩
    · have i0 : i = 0 := by have : i < 1 := hi; omega
      rw [i0]
      refine ⟨?_, ?_⟩
      · rw [up_n (by decide), up_s]; rfl
      · show _ = nI 0
        rw [up_n (by decide), up_n (by decide), up_n (by decide), up_n (by decide)]
        exact up_s
    · have : i < 1 := hi; omega
    · have nm : m ≠ o0N s b := fun z => by
        have : memT (t0 (o0N s b)) m = true := memT_iff.mpr ⟨0, Nat.zero_lt_one, z.symm⟩
        rw [hm2] at this
        exact absurd this (by decide)
      rw [up_n (by decide), up_n (by decide), up_n (by decide), up_n (by decide), up_i nm]
      exact w159 m hm1
  have hO : MS (addM σ3 (o0N s b) 0 0 (-1) 0) Λ (stO s b (o0N s b)) := by
    have h1 : MS (addM σ3 (o0N s b) 0 0 (-1) 0) Λ s := addM_ms y2
    refine ⟨h1.1, ?_, hΛ, stS_ok hΛ hs hb hp o4⟩
    obtain ⟨q0, q1, q2, q3, q4⟩ := h1.2.1
    refine ⟨q0, q1, fun a ha => ?_, q3, ?_⟩
    · show _ = nI (if a = b then onX (o0N s b) else sP s a)
      by_cases e : a = b
      · rw [if_pos e, o2, q2 a ha, e]
      · rw [if_neg e]; exact q2 a ha
    · show _ = nI (setE (sE s) b (onE (o0N s b)))
      rw [q4, o3, setE_id (sE s) hE b (by omega)]
  obtain ⟨σ4, x1, x2, x3⟩ := jm_str58 hΛ hs hb hp hd hm 73 0 FU _ _ (by decide) (by decide) (by rw [FU_eq]; decide) (ino0 hΛ hs hb hp) m0 ⟨_, hO⟩
  refine ⟨σ4, ?_, x2, f1.tr ((y3.mono fun _ _ z => z.wy).tr (addM_fr.tr x3))⟩
  unfold J_X8_strays
  rw [show J_X8_strays_b2 FU (nI b) (nI most) 0 σ = _ from r1, y1, bd2_s, no, bd1_s, re, bd2_s, ew]
  exact x1
end WALK6
