/-! the law, from its entry to its loop -/
set_option maxRecDepth 100000
theorem kl_9 : LI RL 108 yX7_init mX7_init 0 := ⟨al4 (wTi 38 rfl rfl) (wTi 39 rfl rfl) (wTi 22 rfl rfl) (wTi 40 rfl rfl), rfl, rfl, ⟨by decide, by decide, by decide +kernel⟩⟩
set_option maxHeartbeats 4000000 in
theorem kl_law {Ln : Nat} {xs : Nat → Int32} (hL : Ln ≤ 260) : ∃ N' σ', 143 ≤ N' ∧ N' ≤ 155 ∧ ∀ K : KT, KO K → KX K Ln xs → AW K mL_law (some (.int 1), N', R0, σ') 0 [some (.retAddr 1), none, none, none, none, none, none, none, none, none, none] [] 0 (Rt 0) S0 := by
  obtain ⟨σ4, b1, b2, b3, b4, b5, b6, b7⟩ := jb_begin
  have hz : ∀ a, 141 ≤ a → ∀ k, (up σ4 4 3 0) a k = 0 := fun a ha k => by rw [up_n (show a ≠ 4 by omega)]; exact b7 a ha k
  obtain ⟨σ5, Λ, s, h, e1, e2, e3, e4⟩ := la_make (xs := xs) hL (σ := up σ4 4 3 0) up_s (by rw [up_n (by decide)]; exact b6)
  obtain ⟨N', σ', f1, f2, f3⟩ := ll_loop (xs := xs) hL 6 0 FU 143 0 s h σ5 rfl (by rw [FU_eq]; decide) (by decide) (Nat.le_refl _) e2 e3 e4
  have hJ : J_L_law_b18 Ln xs 143 (up σ4 4 3 0) = some (1, N', σ') := by
    unfold J_L_law_b18
    rw [e1, bd2_s, if_neg (show ¬ (1 : Int32) = 0 by decide)]
    exact f1
  refine ⟨N', σ', f2, by omega, fun K hO hX => ?_⟩
  have hN : 143 ≤ N' := f2
  refine aw_new dL_law_0 cf7 hdef7 (wTi 36 rfl rfl) (wTi 37 rfl rfl) (wTi 22 rfl rfl) s_0 (fun _ => rfl) (fun _ => rfl) (Nat.le_trans (by decide) hN) (aw_qn (q := 3) (n' := 1) rfl rfl ?_)
  refine aw_dup rfl dL_law_3 (aw_q (q := 4) rfl ?_)
  refine aw_callO (av := []) (rest := [.ref 0]) dL_law_4 kl_9 hO (kx_7 b1) (Nat.le_of_ble_eq_true rfl) (Nat.le_of_ble_eq_true rfl) (Nat.le_of_ble_eq_true rfl) (Nat.le_trans (by decide) hN) (Nat.le_of_ble_eq_true rfl) rfl (aw_q (q := 7) rfl ?_)
  refine aw_astore_1 dL_law_7 (by decide) rfl (aw_q (q := 8) rfl ?_)
  refine aw_bipush (v := 22) (by decide) dL_law_8 (aw_q (q := 10) rfl ?_)
  refine aw_newarr (len := 22) dL_law_10 hacI s_141 (fun k => hz 141 (Nat.le_refl _) k) (by decide) (by decide) (by decide) (Nat.le_trans (by decide) hN) (aw_qn (q := 12) (n' := 142) rfl rfl ?_)
  refine aw_astore_2 dL_law_12 (by decide) rfl (aw_q (q := 13) rfl ?_)
  refine aw_bipush (v := 54) (by decide) dL_law_13 (aw_q (q := 15) rfl ?_)
  refine aw_newarr (len := 54) dL_law_15 hacI s_142 (fun k => hz 142 (by decide) k) (by decide) (by decide) (by decide) hN (aw_qn (q := 17) (n' := 143) rfl rfl ?_)
  refine aw_astore_3 dL_law_17 (by decide) rfl (aw_q (q := 18) rfl ?_)
  exact A_L_law_b18 K Ln xs hX 143 (Nat.le_refl _) _ _ hJ hN
