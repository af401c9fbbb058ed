/-! all that one can come to: the class's loops -/
section WALK4
variable {σ : Sg} {Λ : LT} {s : ST} {b o0 : Nat}
theorem o_of {o : Nat} (h : o < 72) : o = onX o + if onE o = true then 36 else 0 := by
  unfold onX onE
  by_cases q : 36 ≤ o
  · rw [decide_eq_true q, if_pos rfl]; omega
  · rw [decide_eq_false q, if_neg (by decide)]; omega
theorem cm_inj {o p : Nat} (ho : o < 72) (hp : p < 72) (h1 : lKd Λ b ≠ 2 → onE o = onE o0) (h2 : lKd Λ b ≠ 2 → onE p = onE o0) (h : cmO Λ b o = cmO Λ b p) : o = p := by
  have x1 : onX o < 36 := Nat.mod_lt _ (by decide)
  have x2 : onX p < 36 := Nat.mod_lt _ (by decide)
  have e : onX o = onX p ∧ onE o = onE p := by
    unfold cmO at h
    by_cases k : lKd Λ b = 2
    · cases q1 : onE o <;> cases q2 : onE p <;> rw [q1, q2] at h <;> simp [k] at h
      · exact ⟨h, rfl⟩
      · omega
      · omega
      · exact ⟨h, rfl⟩
    · rw [if_neg (fun z => k z.1), if_neg (fun z => k z.1)] at h
      exact ⟨h, (h1 k).trans (h2 k).symm⟩
  rw [o_of ho, o_of hp, e.1, e.2]
theorem seen_mem {t : WT} {o : Nat} (h : TOK Λ s b o0 t) (ho : o < 72) (hk : lKd Λ b ≠ 2 → onE o = onE o0) : seenC Λ b t (cmO Λ b o) = memT t o := by
  cases q : memT t o
  · cases q2 : seenC Λ b t (cmO Λ b o)
    · rfl
    · obtain ⟨i, z1, z2⟩ := (memK_iff _).mp q2
      obtain ⟨y1, y2, y3⟩ := h.2.2.2.1 i z1
      have := memT_iff.mpr ⟨i, z1, cm_inj y1 ho y3 hk z2⟩
      rw [q] at this
      exact this.symm
  · obtain ⟨i, z1, z2⟩ := memT_iff.mp q
    exact (memK_iff _).mpr ⟨i, z1, by rw [z2]⟩
theorem CW.app {t : WT} {o f q w : Nat} (h : CW Λ b σ t) (h1 : 1 ≤ tN t) : CW Λ b (addW σ (cmO Λ b o) (tN t) (nI (onX o)) (nI (kdS Λ b (onE o))) (nI f) (nI q) (nI w)) (appT t o f q w) := by
  obtain ⟨c1, c2, c3, c4, c5⟩ := h
  obtain ⟨e1, e2, e3, e4⟩ := @app_eq t o f q w
  have n1 : tN (appT t o f q w) = tN t + 1 := rfl
  unfold addW
  refine ⟨by rw [up_s, n1], fun i hi => ?_, ⟨?_, ?_⟩, fun i hi1 hi => ?_, fun m hm => ?_⟩
  · by_cases e : i = tN t
    · rw [e, e1, e2]
      refine ⟨?_, ?_, ?_⟩
      · rw [up_n (by decide), up_n (by decide), up_n (by decide), up_n (by decide), up_n (by decide), up_s]
      · rw [up_n (by decide), up_n (by decide), up_n (by decide), up_n (by decide), up_s]
      · rw [up_n (by decide), up_n (by decide), up_n (by decide), up_s]
    · obtain ⟨l1, l2, l3, l4⟩ := @app_lt t o f q w i (by omega)
      obtain ⟨d1, d2, d3⟩ := c2 i (by omega)
      rw [l1, l2]
      refine ⟨?_, ?_, ?_⟩
      · rw [up_n (by decide), up_n (by decide), up_n (by decide), up_n (by decide), up_n (by decide), up_i e, up_n (by decide)]; exact d1
      · rw [up_n (by decide), up_n (by decide), up_n (by decide), up_n (by decide), up_i e, up_n (by decide), up_n (by decide)]; exact d2
      · rw [up_n (by decide), up_n (by decide), up_n (by decide), up_i e, up_n (by decide), up_n (by decide), up_n (by decide)]; exact d3
  · rw [up_n (by decide), up_n (by decide), up_i (by omega), up_n (by decide), up_n (by decide), up_n (by decide), up_n (by decide)]; exact c3.1
  · rw [up_n (by decide), up_i (by omega), up_n (by decide), up_n (by decide), up_n (by decide), up_n (by decide), up_n (by decide)]; exact c3.2
  · by_cases e : i = tN t
    · rw [e, e3, e4]
      refine ⟨?_, ?_⟩
      · rw [up_n (by decide), up_n (by decide), up_s]
      · rw [up_n (by decide), up_s]
    · obtain ⟨l1, l2, l3, l4⟩ := @app_lt t o f q w i (by omega)
      obtain ⟨d1, d2⟩ := c4 i hi1 (by omega)
      rw [l3, l4]
      refine ⟨?_, ?_⟩
      · rw [up_n (by decide), up_n (by decide), up_i e, up_n (by decide), up_n (by decide), up_n (by decide), up_n (by decide)]; exact d1
      · rw [up_n (by decide), up_i e, up_n (by decide), up_n (by decide), up_n (by decide), up_n (by decide), up_n (by decide)]; exact d2
  · rw [up_n (by decide), up_n (by decide), up_n (by decide), up_n (by decide), up_n (by decide), up_n (by decide)]
    by_cases e : m = cmO Λ b o
    · have sn : seenC Λ b (appT t o f q w) m = true := (memK_iff _).mpr ⟨tN t, by omega, by rw [e1, e]⟩
      rw [sn, if_pos rfl, e, up_s]
    · have sn : seenC Λ b (appT t o f q w) m = seenC Λ b t m := by
        cases y : seenC Λ b t m
        · cases y2 : seenC Λ b (appT t o f q w) m
          · rfl
          · obtain ⟨i, z1, z2⟩ := (memK_iff _).mp y2
            by_cases ei : i = tN t
            · rw [ei, e1] at z2; exact absurd z2.symm e
            · rw [(@app_lt t o f q w i (by omega)).1] at z2
              have := (memK_iff (W := fun i => cmO Λ b (tW t i)) (o := m) (tN t)).mpr ⟨i, by omega, z2⟩
              have y' : memK (fun i => cmO Λ b (tW t i)) m (tN t) = false := y
              rw [y'] at this; exact this.symm
        · obtain ⟨i, z1, z2⟩ := (memK_iff _).mp y
          exact (memK_iff _).mpr ⟨i, by omega, by rw [(@app_lt t o f q w i z1).1]; exact z2⟩
      rw [sn, up_i e]
      exact c5 m hm
theorem jc_from63 (hs : SOK Λ s) (hb : b < lNb Λ) (hp : sP s b ≠ 36) (y46 : Int32 → Int32 → Sg → Option (Unit × Sg)) {i : Nat} : ∀ (k w j : Nat) (t : WT) (σ : Sg), w + k = 4 → k < j → INV Λ s b o0 i t → CW Λ b σ t → (∃ o, CC σ 87 Λ (stO s b o)) → sD s < 2 ^ 28 → ∃ σ', J_X6_from_b63 y46 j (nI b) (nI i) (nI w) σ = y46 (nI b) (nI (i + 1)) σ' ∧ CW Λ b σ' (wayT Λ s b i k w t) ∧ (∃ o, CC σ' 87 Λ (stO s b o)) ∧ Fr (fun a => 80 ≤ a ∧ a ≤ 91) σ σ' := by
  intro k
  induction k with
  | zero =>
    intro w j t σ hk hj hv hc ho hd
    obtain ⟨j, rfl⟩ : ∃ i, j = i + 1 := ⟨j - 1, by omega⟩
    refine ⟨σ, ?_, hc, ho, Fr.rf⟩
    have sl := @seenN_le t
    have hi := hv.2.2.1
    have hn := hv.2.1
    rw [J_X6_from_b63, if_pos (show (4 : Int32) ≤ nI w from by rw [li_4, nI_leI (by omega) (by omega)]; omega), show nI i + (1 : Int32) = nI (i + 1) from by rw [li_1, nI_add]]
  | succ k ih =>
    intro w j t σ hk hj hv hc ho hd
    obtain ⟨j, rfl⟩ : ∃ i, j = i + 1 := ⟨j - 1, by omega⟩
    obtain ⟨o, ho⟩ := ho
    have sl := @seenN_le t
    have hi := hv.2.2.1
    have hn := hv.2.1
    have hΛ := ho.2.2.1
    have h36 := hΛ.sq.2.1
    have i72 : inb (nI i) 72 = true := (inb_nI (by omega)).mpr (by omega)
    obtain ⟨d1, d2, d3⟩ := hc.2.1 i hi
    obtain ⟨w1, w2, w3⟩ := hv.1.2.2.2.1 i hi
    have fl := hv.1.F_le i hi
    have a1 : nI w + (1 : Int32) = nI (w + 1) := by rw [li_1, nI_add]
    obtain ⟨σ1, r1, r2, r3⟩ := jc_putO (p := tW t i) ho hs hb hp w2
    have f1 : Fr (fun a => 80 ≤ a ∧ a ≤ 91) σ σ1 := r3.mono fun a z => by omega
    have c1 : CW Λ b σ1 t := by
      obtain ⟨x1, x2, x3, x4, x5⟩ := hc
      unfold CW
      rw [r3 80 (by decide), r3 81 (by decide), r3 82 (by decide), r3 83 (by decide), r3 84 (by decide), r3 85 (by decide), r3 86 (by decide)]
      exact ⟨x1, x2, x3, x4, x5⟩
    have nw : (!true && decide (kdN Λ (stO s b (tW t i)) b ≠ 2)) = false := by simp
    have cr : J_X2_reach 87 (nI b) (nI w) 1 σ1 = some (plI (reachT Λ (stO s b (tW t i)) b w false)) := by
      have c0 := jc_reach r2 hb (show w < 4 by omega) true
      rw [nw] at c0
      exact c0
    rw [J_X6_from_b63, if_neg (show ¬ (4 : Int32) ≤ nI w from by rw [li_4, nI_leI (by omega) (by omega)]; omega), if_pos i72, if_pos i72, nI_clamp (by omega), d1, d2, r1, bd2_s, cr, bd1_s]
    show ∃ σ', _ ∧ CW Λ b σ' (wayT Λ s b i k (w + 1) (nxT Λ s b i w t)) ∧ _
    cases q : nbT Λ s b (tW t i) w with
    | none =>
      have e36 : reachT Λ (stO s b (tW t i)) b w false = 36 := by
        unfold nbT at q
        by_cases e : reachT Λ (stO s b (tW t i)) b w false = 36
        · exact e
        · rw [if_neg e] at q; exact absurd q (by simp)
      have nx : nxT Λ s b i w t = t := by unfold nxT; rw [q]
      rw [nx, e36, if_pos (show plI 36 = (-4 : Int32) from rfl), a1]
      obtain ⟨σ2, t1, t2, t3, t4⟩ := ih (w + 1) j t σ1 (by omega) (by omega) hv c1 ⟨_, r2⟩ hd
      exact ⟨σ2, t1, t2, t3, f1.tr t4⟩
    | some p =>
      obtain ⟨p1, p2, p3, p4, p5, p6, p7⟩ := nbT_ok hΛ hs hb hp w2 (show w < 4 by omega) q
      obtain ⟨nv, ag, _⟩ := nxT_ok hΛ hs hb hp hv (show w < 4 by omega)
      have nx : nxT Λ s b i w t = addT t p (tF t i + 1) i w := by unfold nxT; rw [q]
      rw [nx] at nv ⊢
      have x36 : onX p ≠ 36 := by have := p2.1; omega
      rw [← p3, plI_of x36, if_neg (nI_nem4 (by have := p2.1; omega))]
      obtain ⟨σ2, v1, v2, v3⟩ := jc_moveO r2 hs hb hp w2 (show w < 4 by omega) q
      have f2 : Fr (fun a => 80 ≤ a ∧ a ≤ 91) σ σ2 := f1.tr (v3.mono fun a z => by omega)
      have c2 : CW Λ b σ2 t := by
        obtain ⟨x1, x2, x3, x4, x5⟩ := c1
        unfold CW
        rw [v3 80 (by decide), v3 81 (by decide), v3 82 (by decide), v3 83 (by decide), v3 84 (by decide), v3 85 (by decide), v3 86 (by decide)]
        exact ⟨x1, x2, x3, x4, x5⟩
      rw [v1, bd2_s, if_pos i72, (c2.2.1 i hi).2.2, show nI (tF t i) + (1 : Int32) = nI (tF t i + 1) from by rw [li_1, nI_add]]
      obtain ⟨z1, z2⟩ := jc_wadd (f := nI (tF t i + 1)) (q := nI i) (w := nI w) v2 hs hb c2.1
      have sm := seen_mem hv.1 p1 (fun z => (p7 z).trans (w3 z))
      have s86 := c2.2.2.2.2 (cmO Λ b p) cmO_lt
      rw [sm] at s86
      cases m : memT t p with
      | true =>
        have ad : addT t p (tF t i + 1) i w = t := by unfold addT; rw [if_pos m]
        rw [m, if_pos rfl] at s86
        rw [z1 (by rw [s86]; decide), bd2_s, ad, a1]
        obtain ⟨σ3, t1, t2, t3, t4⟩ := ih (w + 1) j t σ2 (by omega) (by omega) hv c2 ⟨_, v2⟩ hd
        exact ⟨σ3, t1, t2, t3, f2.tr t4⟩
      | false =>
        have ad : addT t p (tF t i + 1) i w = appT t p (tF t i + 1) i w := by unfold addT; rw [if_neg (by rw [m]; decide)]
        rw [m, if_neg (by decide)] at s86
        have n72 := seenN_lt p1 m
        rw [z2 s86 (by omega), bd2_s, a1]
        rw [ad] at nv ⊢
        have c3 := CW.app (o := p) (f := tF t i + 1) (q := i) (w := w) c2 (by omega)
        have cc3 : CC (addW σ2 (cmO Λ b p) (tN t) (nI (onX p)) (nI (kdS Λ b (onE p))) (nI (tF t i + 1)) (nI i) (nI w)) 87 Λ (stO s b p) := v2.keep rfl addW_fr (by decide) (by decide) (by decide) (fun a y1 y2 => by omega)
        obtain ⟨σ3, t1, t2, t3, t4⟩ := ih (w + 1) j _ _ (by omega) (by omega) nv c3 ⟨_, cc3⟩ hd
        exact ⟨σ3, t1, t2, t3, f2.tr (Fr.tr (addW_fr.mono fun a z => by omega) t4)⟩
theorem jc_from46 (hs : SOK Λ s) (hb : b < lNb Λ) (hp : sP s b ≠ 36) (hd : sD s < 2 ^ 28) : ∀ (k i j : Nat) (t : WT) (σ : Sg), 73 ≤ k + i → i ≤ 73 → k < j → INO Λ s b o0 i t → CW Λ b σ t → (∃ o, CC σ 87 Λ (stO s b o)) → ∃ σ', J_X6_from_b46 j (nI b) (nI i) σ = some ((), σ') ∧ CW Λ b σ' (outT Λ s b 1000 k i t) ∧ Fr (fun a => 80 ≤ a ∧ a ≤ 91) σ σ' := by
  intro k
  induction k with
  | zero =>
    intro i j t σ hk hi2 hj hv hc ho
    obtain ⟨j, rfl⟩ : ∃ i, j = i + 1 := ⟨j - 1, by omega⟩
    have sl := @seenN_le t
    have hn := hv.2.1
    refine ⟨σ, ?_, hc, Fr.rf⟩
    rw [J_X6_from_b46, hc.1, if_pos ((nI_leI (by omega) (by omega)).mpr (by omega))]
  | succ k ih =>
    intro i j t σ hk hi2 hj hv hc ho
    obtain ⟨j, rfl⟩ : ∃ i, j = i + 1 := ⟨j - 1, by omega⟩
    have sl := @seenN_le t
    have hn := hv.2.1
    unfold outT
    rw [J_X6_from_b46, hc.1]
    by_cases e : tN t ≤ i
    · rw [if_pos ((nI_leI (by omega) (by omega)).mpr e), if_pos e]
      exact ⟨σ, rfl, hc, Fr.rf⟩
    · have fl := hv.1.F_le i (by omega)
      have hv2 : INV Λ s b o0 i t := ⟨hv.1, hn, by omega, hv.2.2 (by omega)⟩
      obtain ⟨o, hoo⟩ := ho
      have hΛ := hoo.2.2.1
      rw [if_neg (fun z => e ((nI_leI (by omega) (by omega)).mp z)), if_neg (show ¬ (72 : Int32) ≤ nI i from by rw [li_72, nI_leI (by omega) (by omega)]; omega), if_neg e, if_neg (show ¬ 1000 ≤ tF t i by omega)]
      obtain ⟨σ1, r1, r2, r3, r4⟩ := jc_from63 hs hb hp (fun x2 x3 σ => J_X6_from_b46 j x2 x3 σ) 4 0 FU t σ rfl (by rw [FU_eq]; decide) hv2 hc ⟨o, hoo⟩ hd
      obtain ⟨a1, a2, a3⟩ := wayT_ok hΛ hs hb hp 4 0 t rfl hv2
      obtain ⟨σ2, t1, t2, t3⟩ := ih (i + 1) j _ σ1 (by omega) (by omega) (by omega) (INO.nx (t' := t) a1) r2 r3
      refine ⟨σ2, ?_, t2, r4.tr t3⟩
      rw [show J_X6_from_b63 (fun x2 x3 σ => J_X6_from_b46 j x2 x3 σ) FU (nI b) (nI i) 0 σ = _ from r1]
      exact t1
theorem jc_from15 : ∀ (k i j : Nat) (σ : Sg), i + k = 72 → k < j → ∃ σ', J_X6_from_b15 j (nI b) (nI i) σ = (bd2 (J_X6_add (nI b) (0 : Int32) (-4 : Int32) (-4 : Int32) σ') fun r41 s41 => (J_X6_from_b46 FU (nI b) (0 : Int32) s41)) ∧ (∀ m, i ≤ m → m < 72 → σ' 86 m = 0) ∧ (∀ m, m < i → σ' 86 m = σ 86 m) ∧ Fr (fun a => a = 86) σ σ' := by
  intro k
  induction k with
  | zero =>
    intro i j σ hi hj
    obtain ⟨j, rfl⟩ : ∃ i, j = i + 1 := ⟨j - 1, by omega⟩
    refine ⟨σ, ?_, fun m h1 h2 => by omega, fun _ _ => rfl, Fr.rf⟩
    rw [J_X6_from_b15, if_pos (show (72 : Int32) ≤ nI i from by rw [li_72, nI_leI (by omega) (by omega)]; omega)]
  | succ k ih =>
    intro i j σ hi hj
    obtain ⟨j, rfl⟩ : ∃ i, j = i + 1 := ⟨j - 1, by omega⟩
    rw [J_X6_from_b15, if_neg (show ¬ (72 : Int32) ≤ nI i from by rw [li_72, nI_leI (by omega) (by omega)]; omega), if_pos ((inb_nI (by omega)).mpr (by omega)), nI_clamp (by omega), nar0, show nI i + (1 : Int32) = nI (i + 1) from by rw [li_1, nI_add]]
    obtain ⟨σ', r1, r2, r3, r4⟩ := ih (i + 1) j (up σ 86 i 0) (by omega) (by omega)
    refine ⟨σ', r1, fun m h1 h2 => ?_, fun m hm => ?_, (Fr.up (P := fun a => a = 86) Fr.rf rfl).tr r4⟩
    · by_cases e : m = i
      · rw [e, r3 i (by omega), up_s]
      · exact r2 m (by omega) h2
    · rw [r3 m (by omega), up_i (by omega)]
/-- all stands of the class -/
def allT (Λ : LT) (s : ST) (b most : Nat) : WT := outT Λ s b most 73 0 (t0 (o0N s b))
theorem ino0 (hΛ : LOK Λ) (hs : SOK Λ s) (hb : b < lNb Λ) (hp : sP s b ≠ 36) : INO Λ s b (o0N s b) 0 (t0 (o0N s b)) := by
  obtain ⟨o1, o2, o3, o4⟩ := o0_x hΛ hs hb hp
  obtain ⟨a1, a2⟩ := t0_ok o1 o4
  refine ⟨a1, a2, fun _ j hj => ?_⟩
  exact Nat.zero_le _
theorem jc_from (h : CC σ 14 Λ s) (hb : b < lNb Λ) (hp : sP s b ≠ 36) (hd : sD s < 2 ^ 28) : ∃ σ', J_X6_from 14 (nI b) σ = some ((), σ') ∧ CW Λ b σ' (allT Λ s b 1000) ∧ Fr (fun a => 80 ≤ a ∧ a ≤ 91) σ σ' := by
  have hΛ := h.2.2.1
  have hs := h.2.2.2
  obtain ⟨o1, o2, o3, o4⟩ := o0_x hΛ hs hb hp
  obtain ⟨σ1, r1, r2, r3⟩ := jc_like (c := 87) h rfl rfl (by decide) (by decide)
  obtain ⟨σ2, t1, t2, t3, t4⟩ := @jc_from15 b 72 0 FU (up σ1 80 7 0) rfl (by rw [FU_eq]; decide)
  have f2 : Fr (fun a => 80 ≤ a ∧ a ≤ 91) σ σ2 := (r3.mono fun a z => by omega).tr ((Fr.up (P := fun a => 80 ≤ a ∧ a ≤ 91) Fr.rf ⟨by decide, by decide⟩).tr (t4.mono fun a z => by omega))
  have h2 : CC σ2 87 Λ s := (r2.keep rfl (Fr.up (P := fun a => a = 80) Fr.rf rfl) (by decide) (by decide) (by decide) (fun a y1 y2 => by omega)).keep rfl t4 (by decide) (by decide) (by decide) (fun a y1 y2 => by omega)
  have hO := h2.st0 hb hp
  have z7 : σ2 80 7 = nI 0 := by rw [t4 80 (by decide), up_s]; rfl
  obtain ⟨y1, y2⟩ := jc_wadd (f := 0) (q := -4) (w := -4) hO hs hb z7
  have ad := y2 (t2 _ (Nat.zero_le _) cmO_lt) (by decide)
  have ce : CW Λ b (addW σ2 (cmO Λ b (o0N s b)) 0 (nI (onX (o0N s b))) (nI (kdS Λ b (onE (o0N s b)))) 0 (-4) (-4)) (t0 (o0N s b)) := by
    unfold addW
    refine ⟨up_s, fun i hi => ?_, ⟨?_, ?_⟩, fun i hi1 hi => ?_, fun m hm => ?_⟩
    · have i0 : i = 0 := by have : i < 1 := hi; omega
      rw [i0]
      refine ⟨?_, ?_, ?_⟩
      · rw [up_n (by decide), up_n (by decide), up_n (by decide), up_n (by decide), up_n (by decide), up_s]; rfl
      · rw [up_n (by decide), up_n (by decide), up_n (by decide), up_n (by decide), up_s]; rfl
      · rw [up_n (by decide), up_n (by decide), up_n (by decide), up_s]; rfl
    · rw [up_n (by decide), up_n (by decide), up_s]
    · rw [up_n (by decide), up_s]
    · have : i < 1 := hi; omega
    · rw [up_n (by decide), up_n (by decide), up_n (by decide), up_n (by decide), up_n (by decide), up_n (by decide)]
      have sn : seenC Λ b (t0 (o0N s b)) m = decide (cmO Λ b (o0N s b) = m) := by
        show (false || decide (cmO Λ b (o0N s b) = m)) = _
        rw [Bool.false_or]
      rw [sn]
      by_cases e : m = cmO Λ b (o0N s b)
      · rw [e, up_s, if_pos (by simp)]
      · rw [up_i e, t2 m (Nat.zero_le _) hm, if_neg (by simpa using fun z => e z.symm)]
  have cc : CC (addW σ2 (cmO Λ b (o0N s b)) 0 (nI (onX (o0N s b))) (nI (kdS Λ b (onE (o0N s b)))) 0 (-4) (-4)) 87 Λ (stO s b (o0N s b)) := hO.keep rfl addW_fr (by decide) (by decide) (by decide) (fun a y1 y2 => by omega)
  obtain ⟨σ3, x1, x2, x3⟩ := jc_from46 hs hb hp hd 73 0 FU _ _ (by decide) (by decide) (by rw [FU_eq]; decide) (ino0 hΛ hs hb hp) ce ⟨_, cc⟩
  refine ⟨σ3, ?_, x2, f2.tr (Fr.tr (addW_fr.mono fun a z => by omega) x3)⟩
  unfold J_X6_from
  rw [r1, bd2_s, show J_X6_from_b15 FU (nI b) 0 (up σ1 80 7 0) = _ from t1, ad, bd2_s]
  exact x1
end WALK4
