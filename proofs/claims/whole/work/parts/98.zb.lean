/-! the law, from its entry to its loop -/
set_option maxRecDepth 100000
theorem kl_9 : LI RL 9 yX7_init mX7_init 0 := ⟨al4 (wTi 81 rfl rfl) (wTi 82 rfl rfl) (wTi 64 rfl rfl) (wTi 83 rfl rfl), rfl, rfl, ⟨by decide, by decide, by decide +kernel⟩⟩
theorem kl_12 : LI RL 12 yX8_init mX8_init 0 := ⟨al4 (wTi 813 rfl rfl) (wTi 814 rfl rfl) (wTi 77 rfl rfl) (wTi 815 rfl rfl), rfl, rfl, ⟨by decide, by decide, by decide +kernel⟩⟩
set_option maxHeartbeats 4000000 in
theorem kl_law {Ln : Nat} {xs : Nat → Int32} (hL : Ln ≤ 2560) : ∃ σ', ∀ K : KT, KO K → KX K Ln xs → AW K mlaw (some (.int 1), 165, R0, σ') 0 [some (.retAddr 1), none, none, none] [] 0 (Rt 0) S0 := by
  obtain ⟨σc, σe, h7, h8, hz, hP⟩ := kx_both
  obtain ⟨σ', hJ⟩ := law_loop xs hL 2600 0 0 σe (by omega) (by omega) (by omega) hP
  refine ⟨σ', fun K hO hX => ?_⟩
  refine aw_new dL_law_0 cf7 hdef7 (wTi 79 rfl rfl) (wTi 80 rfl rfl) (wTi 64 rfl rfl) s_0 (fun _ => rfl) (fun _ => rfl) (Nat.le_of_ble_eq_true rfl) (aw_qn (q := 3) (n' := 1) rfl rfl ?_)
  refine aw_dup rfl dL_law_3 (aw_q (q := 4) rfl ?_)
  refine aw_callO (av := []) (rest := [.ref 0]) dL_law_4 kl_9 hO h7 (Nat.le_of_ble_eq_true rfl) (Nat.le_of_ble_eq_true rfl) (Nat.le_of_ble_eq_true rfl) (Nat.le_of_ble_eq_true rfl) (Nat.le_of_ble_eq_true rfl) rfl (aw_q (q := 7) rfl ?_)
  refine aw_astore_1 dL_law_7 (by decide) rfl (aw_q (q := 8) rfl ?_)
  refine aw_R (R' := Rt 168) (fun a j h => (rt168 a j h).symm) ?_
  refine aw_new dL_law_8 cf8 hdef8 (wTi 811 rfl rfl) (wTi 812 rfl rfl) (wTi 77 rfl rfl) s_141 (fun k => hz 141 (Nat.le_refl _) k) (rt_fresh (by decide +kernel)) (Nat.le_of_ble_eq_true rfl) (aw_qn (q := 11) (n' := 142) rfl rfl ?_)
  refine aw_dup rfl dL_law_11 (aw_q (q := 12) rfl ?_)
  refine aw_callI (av := []) (rest := [.ref 141]) dL_law_12 kl_12 h8 (Nat.le_of_ble_eq_true rfl) (Nat.le_of_ble_eq_true rfl) (Nat.le_of_ble_eq_true rfl) (Nat.le_of_ble_eq_true rfl) (Nat.le_of_ble_eq_true rfl) rfl (aw_q (q := 15) rfl ?_)
  refine aw_astore_2 dL_law_15 (by decide) rfl (aw_q (q := 16) rfl ?_)
  refine aw_iconst (v := nI 0) (by decide) dL_law_16 (aw_q (q := 17) rfl ?_)
  refine aw_istore_3 dL_law_17 (by decide) rfl (aw_q (q := 18) rfl ?_)
  exact A_law_b18 K (Nat.le_refl _) Ln xs hX 2600 (nI 0) σe _ hJ
