def J_X0_staying (a1 : Nat) (a2 : Int32) (a3 : Int32) (a4 : Int32) (σ : Sg) : Option (Int64 × Sg) :=
  (bd1 (J_X4_get 94 (0 : Int32) σ) fun r5 => (bd2 (J_X2_copyFrom r5 a1 σ) fun r9 s9 => (bd2 (J_X0_stayingFrom FR (0 : Int32) a2 a3 a4 s9) fun r18 s18 => (some (r18, s18)))))
set_option maxHeartbeats 4000000 in
theorem A_X0_staying (K : KT) {N : Nat} (hN : NC ≤ N) (a1 : Nat) (ha1 : isM a1 = true) (a2 : Int32) (a3 : Int32) (a4 : Int32) (σ : Sg) : AG K mX0_staying N (fun a : Int64 × Sg => (some (.long a.1), N, R0, a.2)) (J_X0_staying a1 a2 a3 a4 σ) 0 [some (.ref 92), some (.ref a1), some (.int a2), some (.int a3), some (.int a4)] [] σ := by
  unfold J_X0_staying
  refine ag_aload_0 (q := 1) dX0_staying_0 rfl ?_
  refine ag_getR (q := 4) dX0_staying_1 rfl fl0_31 (Nat.lt_of_lt_of_le (by decide : 92 < NC) hN) (congrArg Prod.fst s_92) rfl r_92_1 ?_
  refine ag_iconst (q := 5) (v := 0) dX0_staying_4 rfl (by decide) ?_
  refine ag_callV_pR (q := 8) (av := [.int _]) (rest := []) dX0_staying_5 rfl lk0_35 (C_X4_get hN 94 (by decide) (0 : Int32) _) (by decide) (Nat.le_of_ble_eq_true rfl) (Nat.lt_of_lt_of_le (by decide : 94 < NC) hN) (congrArg Prod.fst s_94) (by decide) (fun _ => rfl) (Nat.le_of_ble_eq_true rfl) rfl (fun r5 e5 => ?_)
  refine ag_aload_1 (q := 9) dX0_staying_8 rfl ?_
  refine ag_callV_mU (q := 12) (av := [.ref _]) (rest := []) dX0_staying_9 rfl lk0_39 (C_X2_copyFrom hN r5 (G_X4_get (by decide) e5) a1 ha1 _) (by decide) (Nat.le_of_ble_eq_true rfl) (nlt (mlt (G_X4_get (by decide) e5)) hN) (mS (G_X4_get (by decide) e5)) (by decide) (fun _ => rfl) (Nat.le_of_ble_eq_true rfl) rfl (fun r9 s9 e9 => ?_)
  refine ag_aload_0 (q := 13) dX0_staying_12 rfl ?_
  refine ag_iconst (q := 14) (v := 0) dX0_staying_13 rfl (by decide) ?_
  refine ag_iload_2 (q := 15) dX0_staying_14 rfl ?_
  refine ag_iload_3 (q := 16) dX0_staying_15 rfl ?_
  refine ag_iload_4 (q := 18) dX0_staying_16 rfl ?_
  refine ag_callV_mL (q := 21) (av := [.int _, .int _, .int _, .int _]) (rest := []) dX0_staying_18 rfl (lkr0_99 FR) (C_X0_stayingFrom hN FR (0 : Int32) a2 a3 a4 _) (by decide) (Nat.le_of_ble_eq_true rfl) (Nat.lt_of_lt_of_le (by decide : 92 < NC) hN) (congrArg Prod.fst s_92) (by decide) (fun _ => rfl) (Nat.le_of_ble_eq_true rfl) rfl (fun r18 s18 e18 => ?_)
  exact ag_lret dX0_staying_21 rfl rfl
theorem C_X0_staying {N : Nat} (hN : NC ≤ N) (a1 : Nat) (ha1 : isM a1 = true) (a2 : Int32) (a3 : Int32) (a4 : Int32) (σ : Sg) : ∀ r s', J_X0_staying a1 a2 a3 a4 σ = some (r, s') → AMc yX0_staying mX0_staying [.ref 92, .ref a1, .int a2, .int a3, .int a4] N R0 σ (some (.long r), N, R0, s') := fun r s' e => AMc.of (L := [some (.ref 92), some (.ref a1), some (.int a2), some (.int a3), some (.int a4)]) (by decide) rfl (fun _ => rfl) (fun _ => Nat.le_of_ble_eq_true rfl) (Nat.le_refl _) (fun K => A_X0_staying K hN a1 ha1 a2 a3 a4 σ _ e (Nat.le_refl _))
def J_X1_clear (l : Nat) (σ : Sg) : Option (Unit × Sg) :=
  (some ((), (up (up (up (up (up (up (up σ l 0 (0 : Int32)) l 1 (0 : Int32)) l 2 (0 : Int32)) l 3 (0 : Int32)) l 4 (-4 : Int32)) l 5 (4 : Int32)) l 6 (0 : Int32))))
set_option maxHeartbeats 4000000 in
theorem A_X1_clear (K : KT) {N : Nat} (hN : NC ≤ N) (l : Nat) (hl : isL l = true) (σ : Sg) : AG K mX1_clear N (fun a : Unit × Sg => (none, N, R0, a.2)) (J_X1_clear l σ) 0 [some (.ref l)] [] σ := by
  unfold J_X1_clear
  refine ag_aload_0 (q := 1) dX1_clear_0 rfl ?_
  refine ag_iconst (q := 2) (v := 0) dX1_clear_1 rfl (by decide) ?_
  refine ag_putI (q := 5) dX1_clear_2 rfl fl1_9 (nlt (llt hl) hN) (lS hl) rfl ?_
  refine ag_aload_0 (q := 6) dX1_clear_5 rfl ?_
  refine ag_iconst (q := 7) (v := 0) dX1_clear_6 rfl (by decide) ?_
  refine ag_putI (q := 10) dX1_clear_7 rfl fl1_15 (nlt (llt hl) hN) (lS hl) rfl ?_
  refine ag_aload_0 (q := 11) dX1_clear_10 rfl ?_
  refine ag_iconst (q := 12) (v := 0) dX1_clear_11 rfl (by decide) ?_
  refine ag_putI (q := 15) dX1_clear_12 rfl fl1_18 (nlt (llt hl) hN) (lS hl) rfl ?_
  refine ag_aload_0 (q := 16) dX1_clear_15 rfl ?_
  refine ag_iconst (q := 17) (v := 0) dX1_clear_16 rfl (by decide) ?_
  refine ag_putI (q := 20) dX1_clear_17 rfl fl1_21 (nlt (llt hl) hN) (lS hl) rfl ?_
  refine ag_aload_0 (q := 21) dX1_clear_20 rfl ?_
  refine ag_bipush (q := 23) (v := -4) dX1_clear_21 rfl (by decide) ?_
  refine ag_putI (q := 26) dX1_clear_23 rfl fl1_24 (nlt (llt hl) hN) (lS hl) rfl ?_
  refine ag_aload_0 (q := 27) dX1_clear_26 rfl ?_
  refine ag_iconst (q := 28) (v := 4) dX1_clear_27 rfl (by decide) ?_
  refine ag_putI (q := 31) dX1_clear_28 rfl fl1_27 (nlt (llt hl) hN) (lS hl) rfl ?_
  refine ag_aload_0 (q := 32) dX1_clear_31 rfl ?_
  refine ag_iconst (q := 33) (v := 0) dX1_clear_32 rfl (by decide) ?_
  refine ag_putI (q := 36) dX1_clear_33 rfl fl1_30 (nlt (llt hl) hN) (lS hl) rfl ?_
  exact ag_vret dX1_clear_36 rfl rfl
theorem C_X1_clear {N : Nat} (hN : NC ≤ N) (l : Nat) (hl : isL l = true) (σ : Sg) : ∀ r s', J_X1_clear l σ = some (r, s') → AMc yX1_clear mX1_clear [.ref l] N R0 σ (none, N, R0, s') := fun r s' e => AMc.of (L := [some (.ref l)]) (by decide) rfl (fun _ => rfl) (fun _ => Nat.le_of_ble_eq_true rfl) (Nat.le_refl _) (fun K => A_X1_clear K hN l hl σ _ e (Nat.le_refl _))
def J_X1_copyFrom (l : Nat) (a1 : Nat) (σ : Sg) : Option (Unit × Sg) :=
  (some ((), (upc (upc (up (up (up (up (up (up (up σ l 0 (σ a1 0)) l 1 ((up σ l 0 (σ a1 0)) a1 1)) l 2 ((up (up σ l 0 (σ a1 0)) l 1 ((up σ l 0 (σ a1 0)) a1 1)) a1 2)) l 3 ((up (up (up σ l 0 (σ a1 0)) l 1 ((up σ l 0 (σ a1 0)) a1 1)) l 2 ((up (up σ l 0 (σ a1 0)) l 1 ((up σ l 0 (σ a1 0)) a1 1)) a1 2)) a1 3)) l 4 ((up (up (up (up σ l 0 (σ a1 0)) l 1 ((up σ l 0 (σ a1 0)) a1 1)) l 2 ((up (up σ l 0 (σ a1 0)) l 1 ((up σ l 0 (σ a1 0)) a1 1)) a1 2)) l 3 ((up (up (up σ l 0 (σ a1 0)) l 1 ((up σ l 0 (σ a1 0)) a1 1)) l 2 ((up (up σ l 0 (σ a1 0)) l 1 ((up σ l 0 (σ a1 0)) a1 1)) a1 2)) a1 3)) a1 4)) l 5 ((up (up (up (up (up σ l 0 (σ a1 0)) l 1 ((up σ l 0 (σ a1 0)) a1 1)) l 2 ((up (up σ l 0 (σ a1 0)) l 1 ((up σ l 0 (σ a1 0)) a1 1)) a1 2)) l 3 ((up (up (up σ l 0 (σ a1 0)) l 1 ((up σ l 0 (σ a1 0)) a1 1)) l 2 ((up (up σ l 0 (σ a1 0)) l 1 ((up σ l 0 (σ a1 0)) a1 1)) a1 2)) a1 3)) l 4 ((up (up (up (up σ l 0 (σ a1 0)) l 1 ((up σ l 0 (σ a1 0)) a1 1)) l 2 ((up (up σ l 0 (σ a1 0)) l 1 ((up σ l 0 (σ a1 0)) a1 1)) a1 2)) l 3 ((up (up (up σ l 0 (σ a1 0)) l 1 ((up σ l 0 (σ a1 0)) a1 1)) l 2 ((up (up σ l 0 (σ a1 0)) l 1 ((up σ l 0 (σ a1 0)) a1 1)) a1 2)) a1 3)) a1 4)) a1 5)) l 6 ((up (up (up (up (up (up σ l 0 (σ a1 0)) l 1 ((up σ l 0 (σ a1 0)) a1 1)) l 2 ((up (up σ l 0 (σ a1 0)) l 1 ((up σ l 0 (σ a1 0)) a1 1)) a1 2)) l 3 ((up (up (up σ l 0 (σ a1 0)) l 1 ((up σ l 0 (σ a1 0)) a1 1)) l 2 ((up (up σ l 0 (σ a1 0)) l 1 ((up σ l 0 (σ a1 0)) a1 1)) a1 2)) a1 3)) l 4 ((up (up (up (up σ l 0 (σ a1 0)) l 1 ((up σ l 0 (σ a1 0)) a1 1)) l 2 ((up (up σ l 0 (σ a1 0)) l 1 ((up σ l 0 (σ a1 0)) a1 1)) a1 2)) l 3 ((up (up (up σ l 0 (σ a1 0)) l 1 ((up σ l 0 (σ a1 0)) a1 1)) l 2 ((up (up σ l 0 (σ a1 0)) l 1 ((up σ l 0 (σ a1 0)) a1 1)) a1 2)) a1 3)) a1 4)) l 5 ((up (up (up (up (up σ l 0 (σ a1 0)) l 1 ((up σ l 0 (σ a1 0)) a1 1)) l 2 ((up (up σ l 0 (σ a1 0)) l 1 ((up σ l 0 (σ a1 0)) a1 1)) a1 2)) l 3 ((up (up (up σ l 0 (σ a1 0)) l 1 ((up σ l 0 (σ a1 0)) a1 1)) l 2 ((up (up σ l 0 (σ a1 0)) l 1 ((up σ l 0 (σ a1 0)) a1 1)) a1 2)) a1 3)) l 4 ((up (up (up (up σ l 0 (σ a1 0)) l 1 ((up σ l 0 (σ a1 0)) a1 1)) l 2 ((up (up σ l 0 (σ a1 0)) l 1 ((up σ l 0 (σ a1 0)) a1 1)) a1 2)) l 3 ((up (up (up σ l 0 (σ a1 0)) l 1 ((up σ l 0 (σ a1 0)) a1 1)) l 2 ((up (up σ l 0 (σ a1 0)) l 1 ((up σ l 0 (σ a1 0)) a1 1)) a1 2)) a1 3)) a1 4)) a1 5)) a1 6)) (l + 1) (a1 + 1)) (l + 2) (a1 + 2))))
set_option maxHeartbeats 4000000 in
theorem A_X1_copyFrom (K : KT) {N : Nat} (hN : NC ≤ N) (l : Nat) (hl : isL l = true) (a1 : Nat) (ha1 : isL a1 = true) (σ : Sg) : AG K mX1_copyFrom N (fun a : Unit × Sg => (none, N, R0, a.2)) (J_X1_copyFrom l a1 σ) 0 [some (.ref l), some (.ref a1)] [] σ := by
  unfold J_X1_copyFrom
  refine ag_aload_0 (q := 1) dX1_copyFrom_0 rfl ?_
  refine ag_aload_1 (q := 2) dX1_copyFrom_1 rfl ?_
  refine ag_getI (q := 5) dX1_copyFrom_2 rfl fl1_9 (nlt (llt ha1) hN) (lS ha1) rfl ?_
  refine ag_putI (q := 8) dX1_copyFrom_5 rfl fl1_9 (nlt (llt hl) hN) (lS hl) rfl ?_
  refine ag_aload_0 (q := 9) dX1_copyFrom_8 rfl ?_
  refine ag_aload_1 (q := 10) dX1_copyFrom_9 rfl ?_
  refine ag_getI (q := 13) dX1_copyFrom_10 rfl fl1_15 (nlt (llt ha1) hN) (lS ha1) rfl ?_
  refine ag_putI (q := 16) dX1_copyFrom_13 rfl fl1_15 (nlt (llt hl) hN) (lS hl) rfl ?_
  refine ag_aload_0 (q := 17) dX1_copyFrom_16 rfl ?_
  refine ag_aload_1 (q := 18) dX1_copyFrom_17 rfl ?_
  refine ag_getI (q := 21) dX1_copyFrom_18 rfl fl1_18 (nlt (llt ha1) hN) (lS ha1) rfl ?_
  refine ag_putI (q := 24) dX1_copyFrom_21 rfl fl1_18 (nlt (llt hl) hN) (lS hl) rfl ?_
  refine ag_aload_0 (q := 25) dX1_copyFrom_24 rfl ?_
  refine ag_aload_1 (q := 26) dX1_copyFrom_25 rfl ?_
  refine ag_getI (q := 29) dX1_copyFrom_26 rfl fl1_21 (nlt (llt ha1) hN) (lS ha1) rfl ?_
  refine ag_putI (q := 32) dX1_copyFrom_29 rfl fl1_21 (nlt (llt hl) hN) (lS hl) rfl ?_
  refine ag_aload_0 (q := 33) dX1_copyFrom_32 rfl ?_
  refine ag_aload_1 (q := 34) dX1_copyFrom_33 rfl ?_
  refine ag_getI (q := 37) dX1_copyFrom_34 rfl fl1_24 (nlt (llt ha1) hN) (lS ha1) rfl ?_
  refine ag_putI (q := 40) dX1_copyFrom_37 rfl fl1_24 (nlt (llt hl) hN) (lS hl) rfl ?_
  refine ag_aload_0 (q := 41) dX1_copyFrom_40 rfl ?_
  refine ag_aload_1 (q := 42) dX1_copyFrom_41 rfl ?_
  refine ag_getI (q := 45) dX1_copyFrom_42 rfl fl1_27 (nlt (llt ha1) hN) (lS ha1) rfl ?_
  refine ag_putI (q := 48) dX1_copyFrom_45 rfl fl1_27 (nlt (llt hl) hN) (lS hl) rfl ?_
  refine ag_aload_0 (q := 49) dX1_copyFrom_48 rfl ?_
  refine ag_aload_1 (q := 50) dX1_copyFrom_49 rfl ?_
  refine ag_getI (q := 53) dX1_copyFrom_50 rfl fl1_30 (nlt (llt ha1) hN) (lS ha1) rfl ?_
  refine ag_putI (q := 56) dX1_copyFrom_53 rfl fl1_30 (nlt (llt hl) hN) (lS hl) rfl ?_
  refine ag_aload_1 (q := 57) dX1_copyFrom_56 rfl ?_
  refine ag_getR (q := 60) dX1_copyFrom_57 rfl fl1_33 (nlt (llt ha1) hN) (lS ha1) rfl (lR1 ha1) ?_
  refine ag_iconst (q := 61) (v := 0) dX1_copyFrom_60 rfl (by decide) ?_
  refine ag_aload_0 (q := 62) dX1_copyFrom_61 rfl ?_
  refine ag_getR (q := 65) dX1_copyFrom_62 rfl fl1_33 (nlt (llt hl) hN) (lS hl) rfl (lR1 hl) ?_
  refine ag_iconst (q := 66) (v := 0) dX1_copyFrom_65 rfl (by decide) ?_
  refine ag_bipush (q := 68) (v := 8) dX1_copyFrom_66 rfl (by decide) ?_
  refine ag_acopy (q := 71) dX1_copyFrom_68 rfl kk1_40 (nlt (llt1 ha1) hN) (nlt (llt1 hl) hN) (lA1 ha1) (lA1 hl) rfl rfl (by decide) (by decide) (by decide) (Nat.le_of_ble_eq_true rfl) ?_
  refine ag_aload_1 (q := 72) dX1_copyFrom_71 rfl ?_
  refine ag_getR (q := 75) dX1_copyFrom_72 rfl fl1_37 (nlt (llt ha1) hN) (lS ha1) rfl (lR2 ha1) ?_
  refine ag_iconst (q := 76) (v := 0) dX1_copyFrom_75 rfl (by decide) ?_
  refine ag_aload_0 (q := 77) dX1_copyFrom_76 rfl ?_
  refine ag_getR (q := 80) dX1_copyFrom_77 rfl fl1_37 (nlt (llt hl) hN) (lS hl) rfl (lR2 hl) ?_
  refine ag_iconst (q := 81) (v := 0) dX1_copyFrom_80 rfl (by decide) ?_
  refine ag_bipush (q := 83) (v := 9) dX1_copyFrom_81 rfl (by decide) ?_
  refine ag_acopy (q := 86) dX1_copyFrom_83 rfl kk1_40 (nlt (llt2 ha1) hN) (nlt (llt2 hl) hN) (lA2 ha1) (lA2 hl) rfl rfl (by decide) (by decide) (by decide) (Nat.le_of_ble_eq_true rfl) ?_
  exact ag_vret dX1_copyFrom_86 rfl rfl
theorem C_X1_copyFrom {N : Nat} (hN : NC ≤ N) (l : Nat) (hl : isL l = true) (a1 : Nat) (ha1 : isL a1 = true) (σ : Sg) : ∀ r s', J_X1_copyFrom l a1 σ = some (r, s') → AMc yX1_copyFrom mX1_copyFrom [.ref l, .ref a1] N R0 σ (none, N, R0, s') := fun r s' e => AMc.of (L := [some (.ref l), some (.ref a1)]) (by decide) rfl (fun _ => rfl) (fun _ => Nat.le_of_ble_eq_true rfl) (Nat.le_refl _) (fun K => A_X1_copyFrom K hN l hl a1 ha1 σ _ e (Nat.le_refl _))
def J_X1_hasSquare (l : Nat) (a1 : Int32) (σ : Sg) : Option Int32 :=
  (if a1 < 0 then (some (0 : Int32)) else (if (σ l 0) ≤ a1 then (some (0 : Int32)) else (if (36 : Int32) ≤ a1 then (some (0 : Int32)) else (some (1 : Int32)))))
set_option maxHeartbeats 4000000 in
theorem A_X1_hasSquare (K : KT) {N : Nat} (hN : NC ≤ N) (l : Nat) (hl : isL l = true) (a1 : Int32) (σ : Sg) : AG K mX1_hasSquare N (fun a : Int32 => (some (.int a), N, R0, σ)) (J_X1_hasSquare l a1 σ) 0 [some (.ref l), some (.int a1)] [] σ := by
  unfold J_X1_hasSquare
  refine ag_iload_1 (q := 1) dX1_hasSquare_0 rfl ?_
  refine ag_if_lt (tgt := 22) (q := 4) dX1_hasSquare_1 rfl rfl ?_ ?_
  · refine ag_iconst (q := 23) (v := 0) dX1_hasSquare_22 rfl (by decide) ?_
    exact ag_zretK dX1_hasSquare_23 rfl (by decide) rfl
  refine ag_iload_1 (q := 5) dX1_hasSquare_4 rfl ?_
  refine ag_aload_0 (q := 6) dX1_hasSquare_5 rfl ?_
  refine ag_getI (q := 9) dX1_hasSquare_6 rfl fl1_9 (nlt (llt hl) hN) (lS hl) rfl ?_
  refine ag_icmp_ge (tgt := 22) (q := 12) dX1_hasSquare_9 rfl rfl ?_ ?_
  · refine ag_iconst (q := 23) (v := 0) dX1_hasSquare_22 rfl (by decide) ?_
    exact ag_zretK dX1_hasSquare_23 rfl (by decide) rfl
  refine ag_iload_1 (q := 13) dX1_hasSquare_12 rfl ?_
  refine ag_bipush (q := 15) (v := 36) dX1_hasSquare_13 rfl (by decide) ?_
  refine ag_icmp_ge (tgt := 22) (q := 18) dX1_hasSquare_15 rfl rfl ?_ ?_
  · refine ag_iconst (q := 23) (v := 0) dX1_hasSquare_22 rfl (by decide) ?_
    exact ag_zretK dX1_hasSquare_23 rfl (by decide) rfl
  refine ag_iconst (q := 19) (v := 1) dX1_hasSquare_18 rfl (by decide) ?_
  refine ag_goto (q := 23) dX1_hasSquare_19 rfl ?_
  exact ag_zretK dX1_hasSquare_23 rfl (by decide) rfl
theorem C_X1_hasSquare {N : Nat} (hN : NC ≤ N) (l : Nat) (hl : isL l = true) (a1 : Int32) (σ : Sg) : ∀ r, J_X1_hasSquare l a1 σ = some r → AMc yX1_hasSquare mX1_hasSquare [.ref l, .int a1] N R0 σ (some (.int r), N, R0, σ) := fun r e => AMc.of (L := [some (.ref l), some (.int a1)]) (by decide) rfl (fun _ => rfl) (fun _ => Nat.le_of_ble_eq_true rfl) (Nat.le_refl _) (fun K => A_X1_hasSquare K hN l hl a1 σ _ e (Nat.le_refl _))
def J_X2_hungerOf (c : Nat) (a1 : Int32) (σ : Sg) : Option Int32 :=
  (if a1 < 0 then (some (-4 : Int32)) else (if (σ (lnd c) 3) ≤ a1 then (some (-4 : Int32)) else (if (8 : Int32) ≤ a1 then (some (-4 : Int32)) else (if inb a1 8 = true then (some (σ (c + 4) a1.toNatClampNeg)) else none))))
set_option maxHeartbeats 4000000 in
theorem A_X2_hungerOf (K : KT) {N : Nat} (hN : NC ≤ N) (c : Nat) (hc : isM c = true) (a1 : Int32) (σ : Sg) : AG K mX2_hungerOf N (fun a : Int32 => (some (.int a), N, R0, σ)) (J_X2_hungerOf c a1 σ) 0 [some (.ref c), some (.int a1)] [] σ := by
  unfold J_X2_hungerOf
  refine ag_iload_1 (q := 1) dX2_hungerOf_0 rfl ?_
  refine ag_if_lt (tgt := 30) (q := 4) dX2_hungerOf_1 rfl rfl ?_ ?_
  · refine ag_bipush (q := 32) (v := -4) dX2_hungerOf_30 rfl (by decide) ?_
    exact ag_iret dX2_hungerOf_32 rfl rfl
  refine ag_iload_1 (q := 5) dX2_hungerOf_4 rfl ?_
  refine ag_aload_0 (q := 6) dX2_hungerOf_5 rfl ?_
  refine ag_getR (q := 9) dX2_hungerOf_6 rfl fl2_28 (nlt (mlt hc) hN) (mS hc) rfl (mR0 hc) ?_
  refine ag_getI (q := 12) dX2_hungerOf_9 rfl fl2_43 (nlt (llt (lndL hc)) hN) (lS (lndL hc)) rfl ?_
  refine ag_icmp_ge (tgt := 30) (q := 15) dX2_hungerOf_12 rfl rfl ?_ ?_
  · refine ag_bipush (q := 32) (v := -4) dX2_hungerOf_30 rfl (by decide) ?_
    exact ag_iret dX2_hungerOf_32 rfl rfl
  refine ag_iload_1 (q := 16) dX2_hungerOf_15 rfl ?_
  refine ag_bipush (q := 18) (v := 8) dX2_hungerOf_16 rfl (by decide) ?_
  refine ag_icmp_ge (tgt := 30) (q := 21) dX2_hungerOf_18 rfl rfl ?_ ?_
  · refine ag_bipush (q := 32) (v := -4) dX2_hungerOf_30 rfl (by decide) ?_
    exact ag_iret dX2_hungerOf_32 rfl rfl
  refine ag_aload_0 (q := 22) dX2_hungerOf_21 rfl ?_
  refine ag_getR (q := 25) dX2_hungerOf_22 rfl fl2_21 (nlt (mlt hc) hN) (mS hc) rfl (mR4 hc) ?_
  refine ag_iload_1 (q := 26) dX2_hungerOf_25 rfl ?_
  refine ag_iald (q := 27) dX2_hungerOf_26 rfl (nlt (mlt4 hc) hN) (mA4 hc) ?_
  refine ag_goto (q := 32) dX2_hungerOf_27 rfl ?_
  exact ag_iret dX2_hungerOf_32 rfl rfl
theorem C_X2_hungerOf {N : Nat} (hN : NC ≤ N) (c : Nat) (hc : isM c = true) (a1 : Int32) (σ : Sg) : ∀ r, J_X2_hungerOf c a1 σ = some r → AMc yX2_hungerOf mX2_hungerOf [.ref c, .int a1] N R0 σ (some (.int r), N, R0, σ) := fun r e => AMc.of (L := [some (.ref c), some (.int a1)]) (by decide) rfl (fun _ => rfl) (fun _ => Nat.le_of_ble_eq_true rfl) (Nat.le_refl _) (fun K => A_X2_hungerOf K hN c hc a1 σ _ e (Nat.le_refl _))
def J_X2_live (c : Nat) (a1 : Int32) (σ : Sg) : Option (Unit × Sg) :=
  (if a1 = (99 : Int32) then (bd2 (J_X2_passDay c σ) fun r39 s39 => (some ((), s39))) else (bd1 (J_X2_driven c (a1 / (10 : Int32)) (rmI a1 (10 : Int32)) σ) fun r22 => (if r22 = (-4 : Int32) then (bd2 (J_X2_passDay c σ) fun r39 s39 => (some ((), s39))) else (bd2 (J_X2_move c (a1 / (10 : Int32)) r22 σ) fun r35 s35 => (bd2 (J_X2_passDay c s35) fun r39 s39 => (some ((), s39)))))))
set_option maxHeartbeats 4000000 in
theorem A_X2_live (K : KT) {N : Nat} (hN : NC ≤ N) (c : Nat) (hc : isM c = true) (a1 : Int32) (σ : Sg) : AG K mX2_live N (fun a : Unit × Sg => (none, N, R0, a.2)) (J_X2_live c a1 σ) 0 [some (.ref c), some (.int a1), none, none] [] σ := by
  unfold J_X2_live
  refine ag_iload_1 (q := 1) dX2_live_0 rfl ?_
  refine ag_bipush (q := 3) (v := 10) dX2_live_1 rfl (by decide) ?_
  refine ag_idivK (q := 4) dX2_live_3 rfl (by decide) ?_
  refine ag_istore_2 (q := 5) dX2_live_4 rfl (Nat.le_of_ble_eq_true rfl) rfl ?_
  refine ag_iload_1 (q := 6) dX2_live_5 rfl ?_
  refine ag_bipush (q := 8) (v := 99) dX2_live_6 rfl (by decide) ?_
  refine ag_icmp_ne (tgt := 16) (q := 11) dX2_live_8 rfl rfl ?_ ?_
  · refine ag_aload_0 (q := 17) dX2_live_16 rfl ?_
    refine ag_iload_2 (q := 18) dX2_live_17 rfl ?_
    refine ag_iload_1 (q := 19) dX2_live_18 rfl ?_
    refine ag_bipush (q := 21) (v := 10) dX2_live_19 rfl (by decide) ?_
    refine ag_iremK (q := 22) dX2_live_21 rfl (by decide) ?_
    refine ag_callV_pI (q := 25) (av := [.int _, .int _]) (rest := []) dX2_live_22 rfl lk2_114 (C_X2_driven hN c hc (a1 / (10 : Int32)) (rmI a1 (10 : Int32)) _) (by decide) (Nat.le_of_ble_eq_true rfl) (nlt (mlt hc) hN) (mS hc) (by decide) (fun _ => rfl) (Nat.le_of_ble_eq_true rfl) rfl (fun r22 e22 => ?_)
    refine ag_istore_3 (q := 26) dX2_live_25 rfl (Nat.le_of_ble_eq_true rfl) rfl ?_
    refine ag_iload_3 (q := 27) dX2_live_26 rfl ?_
    refine ag_bipush (q := 29) (v := -4) dX2_live_27 rfl (by decide) ?_
    refine ag_icmp_eq (tgt := 38) (q := 32) dX2_live_29 rfl rfl ?_ ?_
    · refine ag_aload_0 (q := 39) dX2_live_38 rfl ?_
      refine ag_callV_mU (q := 42) (av := []) (rest := []) dX2_live_39 rfl lk2_121 (C_X2_passDay hN c hc _) (by decide) (Nat.le_of_ble_eq_true rfl) (nlt (mlt hc) hN) (mS hc) (by decide) (fun _ => rfl) (Nat.le_of_ble_eq_true rfl) rfl (fun r39 s39 e39 => ?_)
      exact ag_vret dX2_live_42 rfl rfl
    refine ag_aload_0 (q := 33) dX2_live_32 rfl ?_
    refine ag_iload_2 (q := 34) dX2_live_33 rfl ?_
    refine ag_iload_3 (q := 35) dX2_live_34 rfl ?_
    refine ag_callV_mU (q := 38) (av := [.int _, .int _]) (rest := []) dX2_live_35 rfl lk2_117 (C_X2_move hN c hc (a1 / (10 : Int32)) r22 _) (by decide) (Nat.le_of_ble_eq_true rfl) (nlt (mlt hc) hN) (mS hc) (by decide) (fun _ => rfl) (Nat.le_of_ble_eq_true rfl) rfl (fun r35 s35 e35 => ?_)
    refine ag_aload_0 (q := 39) dX2_live_38 rfl ?_
    refine ag_callV_mU (q := 42) (av := []) (rest := []) dX2_live_39 rfl lk2_121 (C_X2_passDay hN c hc _) (by decide) (Nat.le_of_ble_eq_true rfl) (nlt (mlt hc) hN) (mS hc) (by decide) (fun _ => rfl) (Nat.le_of_ble_eq_true rfl) rfl (fun r39 s39 e39 => ?_)
    exact ag_vret dX2_live_42 rfl rfl
  refine ag_bipush (q := 13) (v := -4) dX2_live_11 rfl (by decide) ?_
  refine ag_goto (q := 25) dX2_live_13 rfl ?_
  refine ag_istore_3 (q := 26) dX2_live_25 rfl (Nat.le_of_ble_eq_true rfl) rfl ?_
  refine ag_iload_3 (q := 27) dX2_live_26 rfl ?_
  refine ag_bipush (q := 29) (v := -4) dX2_live_27 rfl (by decide) ?_
  refine ag_icmp_eq_t (q := 38) dX2_live_29 rfl (by decide) ?_
  refine ag_aload_0 (q := 39) dX2_live_38 rfl ?_
  refine ag_callV_mU (q := 42) (av := []) (rest := []) dX2_live_39 rfl lk2_121 (C_X2_passDay hN c hc _) (by decide) (Nat.le_of_ble_eq_true rfl) (nlt (mlt hc) hN) (mS hc) (by decide) (fun _ => rfl) (Nat.le_of_ble_eq_true rfl) rfl (fun r39 s39 e39 => ?_)
  exact ag_vret dX2_live_42 rfl rfl
theorem C_X2_live {N : Nat} (hN : NC ≤ N) (c : Nat) (hc : isM c = true) (a1 : Int32) (σ : Sg) : ∀ r s', J_X2_live c a1 σ = some (r, s') → AMc yX2_live mX2_live [.ref c, .int a1] N R0 σ (none, N, R0, s') := fun r s' e => AMc.of (L := [some (.ref c), some (.int a1), none, none]) (by decide) rfl (fun _ => rfl) (fun _ => Nat.le_of_ble_eq_true rfl) (Nat.le_refl _) (fun K => A_X2_live K hN c hc a1 σ _ e (Nat.le_refl _))
def J_X2_allGrass_b4 (c : Nat) : Nat → Int32 → Int32 → Sg → Option Int32
  | 0, _, _, _ => none
  | k + 1, x1, x2, σ =>
    (if (σ (lnd c) 0) ≤ x2 then (some x1) else (if (36 : Int32) ≤ x2 then (some x1) else (if inb x2 36 = true then (if (σ (c + 1) x2.toNatClampNeg) = (9 : Int32) then (J_X2_allGrass_b4 c  k (x1 + (0 : Int32)) (x2 + (1)) σ) else (if inb x2 36 = true then (J_X2_allGrass_b4 c  k (x1 + (σ (c + 1) x2.toNatClampNeg)) (x2 + (1)) σ) else none)) else none)))
set_option maxHeartbeats 4000000 in
theorem A_X2_allGrass_b4 (K : KT) {N : Nat} (hN : NC ≤ N) (c : Nat) (hc : isM c = true) : ∀ (k : Nat) (x1 : Int32) (x2 : Int32) (σ : Sg), AG K mX2_allGrass N (fun a : Int32 => (some (.int a), N, R0, σ)) (J_X2_allGrass_b4 c  k x1 x2 σ) 4 [some (.ref c), some (.int x1), some (.int x2)] [] σ := by
  intro k
  induction k with
  | zero => intro x1 x2 σ; exact ag_none
  | succ k ih =>
    intro x1 x2 σ
    rw [J_X2_allGrass_b4]
    refine ag_iload_2 (q := 5) dX2_allGrass_4 rfl ?_
    refine ag_aload_0 (q := 6) dX2_allGrass_5 rfl ?_
    refine ag_getR (q := 9) dX2_allGrass_6 rfl fl2_28 (nlt (mlt hc) hN) (mS hc) rfl (mR0 hc) ?_
    refine ag_getI (q := 12) dX2_allGrass_9 rfl fl2_38 (nlt (llt (lndL hc)) hN) (lS (lndL hc)) rfl ?_
    refine ag_icmp_ge (tgt := 51) (q := 15) dX2_allGrass_12 rfl rfl ?_ ?_
    · refine ag_iload_1 (q := 52) dX2_allGrass_51 rfl ?_
      exact ag_iret dX2_allGrass_52 rfl rfl
    refine ag_iload_2 (q := 16) dX2_allGrass_15 rfl ?_
    refine ag_bipush (q := 18) (v := 36) dX2_allGrass_16 rfl (by decide) ?_
    refine ag_icmp_ge (tgt := 51) (q := 21) dX2_allGrass_18 rfl rfl ?_ ?_
    · refine ag_iload_1 (q := 52) dX2_allGrass_51 rfl ?_
      exact ag_iret dX2_allGrass_52 rfl rfl
    refine ag_iload_1 (q := 22) dX2_allGrass_21 rfl ?_
    refine ag_aload_0 (q := 23) dX2_allGrass_22 rfl ?_
    refine ag_getR (q := 26) dX2_allGrass_23 rfl fl2_9 (nlt (mlt hc) hN) (mS hc) rfl (mR1 hc) ?_
    refine ag_iload_2 (q := 27) dX2_allGrass_26 rfl ?_
    refine ag_iald (q := 28) dX2_allGrass_27 rfl (nlt (mlt1 hc) hN) (mA1 hc) ?_
    refine ag_bipush (q := 30) (v := 9) dX2_allGrass_28 rfl (by decide) ?_
    refine ag_icmp_ne (tgt := 37) (q := 33) dX2_allGrass_30 rfl rfl ?_ ?_
    · refine ag_aload_0 (q := 38) dX2_allGrass_37 rfl ?_
      refine ag_getR (q := 41) dX2_allGrass_38 rfl fl2_9 (nlt (mlt hc) hN) (mS hc) rfl (mR1 hc) ?_
      refine ag_iload_2 (q := 42) dX2_allGrass_41 rfl ?_
      refine ag_iald (q := 43) dX2_allGrass_42 rfl (nlt (mlt1 hc) hN) (mA1 hc) ?_
      refine ag_iadd (q := 44) dX2_allGrass_43 rfl ?_
      refine ag_istore_1 (q := 45) dX2_allGrass_44 rfl (Nat.le_of_ble_eq_true rfl) rfl ?_
      refine ag_iinc_2 (q := 48) (d := (1)) dX2_allGrass_45 rfl (Nat.le_of_ble_eq_true rfl) rfl (by decide) ?_
      refine ag_goto (q := 4) dX2_allGrass_48 rfl ?_
      exact ih (x1 + (σ (c + 1) x2.toNatClampNeg)) (x2 + (1)) σ
    refine ag_iconst (q := 34) (v := 0) dX2_allGrass_33 rfl (by decide) ?_
    refine ag_goto (q := 43) dX2_allGrass_34 rfl ?_
    refine ag_iadd (q := 44) dX2_allGrass_43 rfl ?_
    refine ag_istore_1 (q := 45) dX2_allGrass_44 rfl (Nat.le_of_ble_eq_true rfl) rfl ?_
    refine ag_iinc_2 (q := 48) (d := (1)) dX2_allGrass_45 rfl (Nat.le_of_ble_eq_true rfl) rfl (by decide) ?_
    refine ag_goto (q := 4) dX2_allGrass_48 rfl ?_
    exact ih (x1 + (0 : Int32)) (x2 + (1)) σ
def J_X2_allGrass (c : Nat) (σ : Sg) : Option Int32 :=
  (J_X2_allGrass_b4 c  FU (0 : Int32) (0 : Int32) σ)
set_option maxHeartbeats 4000000 in
theorem A_X2_allGrass (K : KT) {N : Nat} (hN : NC ≤ N) (c : Nat) (hc : isM c = true) (σ : Sg) : AG K mX2_allGrass N (fun a : Int32 => (some (.int a), N, R0, σ)) (J_X2_allGrass c σ) 0 [some (.ref c), none, none] [] σ := by
  unfold J_X2_allGrass
  refine ag_iconst (q := 1) (v := 0) dX2_allGrass_0 rfl (by decide) ?_
  refine ag_istore_1 (q := 2) dX2_allGrass_1 rfl (Nat.le_of_ble_eq_true rfl) rfl ?_
  refine ag_iconst (q := 3) (v := 0) dX2_allGrass_2 rfl (by decide) ?_
  refine ag_istore_2 (q := 4) dX2_allGrass_3 rfl (Nat.le_of_ble_eq_true rfl) rfl ?_
  exact A_X2_allGrass_b4 K hN c hc  FU (0 : Int32) (0 : Int32) σ
theorem C_X2_allGrass {N : Nat} (hN : NC ≤ N) (c : Nat) (hc : isM c = true) (σ : Sg) : ∀ r, J_X2_allGrass c σ = some r → AMc yX2_allGrass mX2_allGrass [.ref c] N R0 σ (some (.int r), N, R0, σ) := fun r e => AMc.of (L := [some (.ref c), none, none]) (by decide) rfl (fun _ => rfl) (fun _ => Nat.le_of_ble_eq_true rfl) (Nat.le_refl _) (fun K => A_X2_allGrass K hN c hc σ _ e (Nat.le_refl _))
theorem dJ9_floorMod_7cf53_0 : decode cJ9_floorMod_7cf53 0 = .ok (.iload_n 0, 1) := by decide +kernel
theorem dJ9_floorMod_7cf53_1 : decode cJ9_floorMod_7cf53 1 = .ok (.iload_n 1, 1) := by decide +kernel
theorem dJ9_floorMod_7cf53_2 : decode cJ9_floorMod_7cf53 2 = .ok (.irem, 1) := by decide +kernel
theorem dJ9_floorMod_7cf53_3 : decode cJ9_floorMod_7cf53 3 = .ok (.istore_n 2, 1) := by decide +kernel
theorem dJ9_floorMod_7cf53_4 : decode cJ9_floorMod_7cf53 4 = .ok (.iload_n 0, 1) := by decide +kernel
theorem dJ9_floorMod_7cf53_5 : decode cJ9_floorMod_7cf53 5 = .ok (.iload_n 1, 1) := by decide +kernel
theorem dJ9_floorMod_7cf53_6 : decode cJ9_floorMod_7cf53 6 = .ok (.ixor, 1) := by decide +kernel
theorem dJ9_floorMod_7cf53_7 : decode cJ9_floorMod_7cf53 7 = .ok (.ifCond .ge 11, 3) := by decide +kernel
theorem dJ9_floorMod_7cf53_10 : decode cJ9_floorMod_7cf53 10 = .ok (.iload_n 2, 1) := by decide +kernel
theorem dJ9_floorMod_7cf53_11 : decode cJ9_floorMod_7cf53 11 = .ok (.ifCond .eq 7, 3) := by decide +kernel
theorem dJ9_floorMod_7cf53_14 : decode cJ9_floorMod_7cf53 14 = .ok (.iload_n 2, 1) := by decide +kernel
theorem dJ9_floorMod_7cf53_15 : decode cJ9_floorMod_7cf53 15 = .ok (.iload_n 1, 1) := by decide +kernel
theorem dJ9_floorMod_7cf53_16 : decode cJ9_floorMod_7cf53 16 = .ok (.iadd, 1) := by decide +kernel
theorem dJ9_floorMod_7cf53_17 : decode cJ9_floorMod_7cf53 17 = .ok (.ireturn, 1) := by decide +kernel
theorem dJ9_floorMod_7cf53_18 : decode cJ9_floorMod_7cf53 18 = .ok (.iload_n 2, 1) := by decide +kernel
theorem dJ9_floorMod_7cf53_19 : decode cJ9_floorMod_7cf53 19 = .ok (.ireturn, 1) := by decide +kernel
def J_JM_floorMod (a0 : Int32) (a1 : Int32) (σ : Sg) : Option Int32 :=
  (if a1 = 0 then none else (if 0 ≤ (a0 ^^^ a1) then (some (rmI a0 a1)) else (if (rmI a0 a1) = 0 then (some (rmI a0 a1)) else (some ((rmI a0 a1) + a1)))))
set_option maxHeartbeats 4000000 in
theorem A_JM_floorMod (K : KT) {N : Nat} (hN : NC ≤ N) (a0 : Int32) (a1 : Int32) (σ : Sg) : AG K mJM_floorMod N (fun a : Int32 => (some (.int a), N, R0, σ)) (J_JM_floorMod a0 a1 σ) 0 [some (.int a0), some (.int a1), none] [] σ := by
  unfold J_JM_floorMod
  refine ag_iload_0 (q := 1) dJ9_floorMod_7cf53_0 rfl ?_
  refine ag_iload_1 (q := 2) dJ9_floorMod_7cf53_1 rfl ?_
  refine ag_irem (q := 3) dJ9_floorMod_7cf53_2 rfl ?_
  refine ag_istore_2 (q := 4) dJ9_floorMod_7cf53_3 rfl (Nat.le_of_ble_eq_true rfl) rfl ?_
  refine ag_iload_0 (q := 5) dJ9_floorMod_7cf53_4 rfl ?_
  refine ag_iload_1 (q := 6) dJ9_floorMod_7cf53_5 rfl ?_
  refine ag_ixor (q := 7) dJ9_floorMod_7cf53_6 rfl ?_
  refine ag_if_ge (tgt := 18) (q := 10) dJ9_floorMod_7cf53_7 rfl rfl ?_ ?_
  · refine ag_iload_2 (q := 19) dJ9_floorMod_7cf53_18 rfl ?_
    exact ag_iret dJ9_floorMod_7cf53_19 rfl rfl
  refine ag_iload_2 (q := 11) dJ9_floorMod_7cf53_10 rfl ?_
  refine ag_if_eq (tgt := 18) (q := 14) dJ9_floorMod_7cf53_11 rfl rfl ?_ ?_
  · refine ag_iload_2 (q := 19) dJ9_floorMod_7cf53_18 rfl ?_
    exact ag_iret dJ9_floorMod_7cf53_19 rfl rfl
  refine ag_iload_2 (q := 15) dJ9_floorMod_7cf53_14 rfl ?_
  refine ag_iload_1 (q := 16) dJ9_floorMod_7cf53_15 rfl ?_
  refine ag_iadd (q := 17) dJ9_floorMod_7cf53_16 rfl ?_
  exact ag_iret dJ9_floorMod_7cf53_17 rfl rfl
theorem C_JM_floorMod {N : Nat} (hN : NC ≤ N) (a0 : Int32) (a1 : Int32) (σ : Sg) : ∀ r, J_JM_floorMod a0 a1 σ = some r → AMc yJ9_floorMod_7cf53 mJM_floorMod [.int a0, .int a1] N R0 σ (some (.int r), N, R0, σ) := fun r e => AMc_ofF (L := [some (.int a0), some (.int a1), none]) (by decide +kernel) rfl (fun _ => rfl) (fun _ => Nat.le_of_ble_eq_true rfl) (Nat.le_refl _) (fun K => A_JM_floorMod K hN a0 a1 σ _ e (Nat.le_refl _))
def J_X3_slot (a1 : Int32) (σ : Sg) : Option Int32 :=
  (bd1 (J_JM_floorMod ((σ 24 4) + a1) (8 : Int32) σ) fun r8 => (some r8))
set_option maxHeartbeats 4000000 in
theorem A_X3_slot (K : KT) {N : Nat} (hN : NC ≤ N) (a1 : Int32) (σ : Sg) : AG K mX3_slot N (fun a : Int32 => (some (.int a), N, R0, σ)) (J_X3_slot a1 σ) 0 [some (.ref 24), some (.int a1)] [] σ := by
  unfold J_X3_slot
  refine ag_aload_0 (q := 1) dX3_slot_0 rfl ?_
  refine ag_getI (q := 4) dX3_slot_1 rfl fl3_19 (Nat.lt_of_lt_of_le (by decide : 24 < NC) hN) (congrArg Prod.fst s_24) rfl ?_
  refine ag_iload_1 (q := 5) dX3_slot_4 rfl ?_
  refine ag_iadd (q := 6) dX3_slot_5 rfl ?_
  refine ag_bipush (q := 8) (v := 8) dX3_slot_6 rfl (by decide) ?_
  refine ag_callS_pI (q := 11) (av := [.int _, .int _]) (rest := []) dX3_slot_8 rfl lk3_35 (C_JM_floorMod hN ((σ 24 4) + a1) (8 : Int32) _) (by decide) (Nat.le_of_ble_eq_true rfl) (fun _ => rfl) (Nat.le_of_ble_eq_true rfl) rfl (fun r8 e8 => ?_)
  exact ag_iret dX3_slot_11 rfl rfl
theorem C_X3_slot {N : Nat} (hN : NC ≤ N) (a1 : Int32) (σ : Sg) : ∀ r, J_X3_slot a1 σ = some r → AMc yX3_slot mX3_slot [.ref 24, .int a1] N R0 σ (some (.int r), N, R0, σ) := fun r e => AMc.of (L := [some (.ref 24), some (.int a1)]) (by decide) rfl (fun _ => rfl) (fun _ => Nat.le_of_ble_eq_true rfl) (Nat.le_refl _) (fun K => A_X3_slot K hN a1 σ _ e (Nat.le_refl _))
def J_X3_before (a1 : Int32) (σ : Sg) : Option Nat :=
  (bd1 (J_X3_slot a1 σ) fun r6 => (bd1 (J_X4_get 26 r6 σ) fun r9 => (some r9)))
set_option maxHeartbeats 4000000 in
theorem A_X3_before (K : KT) {N : Nat} (hN : NC ≤ N) (a1 : Int32) (σ : Sg) : AG K mX3_before N (fun a : Nat => (some (.ref a), N, R0, σ)) (J_X3_before a1 σ) 0 [some (.ref 24), some (.int a1)] [] σ := by
  unfold J_X3_before
  refine ag_aload_0 (q := 1) dX3_before_0 rfl ?_
  refine ag_getR (q := 4) dX3_before_1 rfl fl3_31 (Nat.lt_of_lt_of_le (by decide : 24 < NC) hN) (congrArg Prod.fst s_24) rfl r_24_1 ?_
  refine ag_aload_0 (q := 5) dX3_before_4 rfl ?_
  refine ag_iload_1 (q := 6) dX3_before_5 rfl ?_
  refine ag_callV_pI (q := 9) (av := [.int _]) (rest := [.ref _]) dX3_before_6 rfl lk3_41 (C_X3_slot hN a1 _) (by decide) (Nat.le_of_ble_eq_true rfl) (Nat.lt_of_lt_of_le (by decide : 24 < NC) hN) (congrArg Prod.fst s_24) (by decide) (fun _ => rfl) (Nat.le_of_ble_eq_true rfl) rfl (fun r6 e6 => ?_)
  refine ag_callV_pR (q := 12) (av := [.int _]) (rest := []) dX3_before_9 rfl lk3_45 (C_X4_get hN 26 (by decide) r6 _) (by decide) (Nat.le_of_ble_eq_true rfl) (Nat.lt_of_lt_of_le (by decide : 26 < NC) hN) (congrArg Prod.fst s_26) (by decide) (fun _ => rfl) (Nat.le_of_ble_eq_true rfl) rfl (fun r9 e9 => ?_)
  exact ag_aret dX3_before_12 rfl rfl
theorem C_X3_before {N : Nat} (hN : NC ≤ N) (a1 : Int32) (σ : Sg) : ∀ r, J_X3_before a1 σ = some r → AMc yX3_before mX3_before [.ref 24, .int a1] N R0 σ (some (.ref r), N, R0, σ) := fun r e => AMc.of (L := [some (.ref 24), some (.int a1)]) (by decide) rfl (fun _ => rfl) (fun _ => Nat.le_of_ble_eq_true rfl) (Nat.le_refl _) (fun K => A_X3_before K hN a1 σ _ e (Nat.le_refl _))
theorem G_X3_before {a : Int32} {σ : Sg} {r : Nat} (e : J_X3_before a σ = some r) : isM r = true := by
  unfold J_X3_before at e
  obtain ⟨_, _, e⟩ := bd1_some e
  obtain ⟨_, e1, e⟩ := bd1_some e
  cases e
  exact G_X4_get (by decide) e1
def J_X3_add_b24  (x1 : Nat) (x2 : Int32) (σ : Sg) : Option (Unit × Sg) :=
  (bd1 (J_X3_slot (σ 24 3) σ) fun r29 => (bd1 (J_X4_get 26 r29 σ) fun r38 => (bd2 (J_X2_copyFrom r38 x1 σ) fun r42 s42 => (if inb r29 8 = true then (some ((), (up (up s42 25 r29.toNatClampNeg x2) 24 3 (((up s42 25 r29.toNatClampNeg x2) 24 3) + (1 : Int32))))) else none))))
set_option maxHeartbeats 4000000 in
theorem A_X3_add_b24 (K : KT) {N : Nat} (hN : NC ≤ N)  (x1 : Nat) (hx1 : isM x1 = true) (x2 : Int32) (σ : Sg) : AG K mX3_add N (fun a : Unit × Sg => (none, N, R0, a.2)) (J_X3_add_b24   x1 x2 σ) 24 [some (.ref 24), some (.ref x1), some (.int x2), none] [] σ := by
  unfold J_X3_add_b24
  refine ag_aload_0 (q := 25) dX3_add_24 rfl ?_
  refine ag_aload_0 (q := 26) dX3_add_25 rfl ?_
  refine ag_getI (q := 29) dX3_add_26 rfl fl3_15 (Nat.lt_of_lt_of_le (by decide : 24 < NC) hN) (congrArg Prod.fst s_24) rfl ?_
  refine ag_callV_pI (q := 32) (av := [.int _]) (rest := []) dX3_add_29 rfl lk3_41 (C_X3_slot hN (σ 24 3) _) (by decide) (Nat.le_of_ble_eq_true rfl) (Nat.lt_of_lt_of_le (by decide : 24 < NC) hN) (congrArg Prod.fst s_24) (by decide) (fun _ => rfl) (Nat.le_of_ble_eq_true rfl) rfl (fun r29 e29 => ?_)
  refine ag_istore_3 (q := 33) dX3_add_32 rfl (Nat.le_of_ble_eq_true rfl) rfl ?_
  refine ag_aload_0 (q := 34) dX3_add_33 rfl ?_
  refine ag_getR (q := 37) dX3_add_34 rfl fl3_31 (Nat.lt_of_lt_of_le (by decide : 24 < NC) hN) (congrArg Prod.fst s_24) rfl r_24_1 ?_
  refine ag_iload_3 (q := 38) dX3_add_37 rfl ?_
  refine ag_callV_pR (q := 41) (av := [.int _]) (rest := []) dX3_add_38 rfl lk3_45 (C_X4_get hN 26 (by decide) r29 _) (by decide) (Nat.le_of_ble_eq_true rfl) (Nat.lt_of_lt_of_le (by decide : 26 < NC) hN) (congrArg Prod.fst s_26) (by decide) (fun _ => rfl) (Nat.le_of_ble_eq_true rfl) rfl (fun r38 e38 => ?_)
  refine ag_aload_1 (q := 42) dX3_add_41 rfl ?_
  refine ag_callV_mU (q := 45) (av := [.ref _]) (rest := []) dX3_add_42 rfl lk3_49 (C_X2_copyFrom hN r38 (G_X4_get (by decide) e38) x1 hx1 _) (by decide) (Nat.le_of_ble_eq_true rfl) (nlt (mlt (G_X4_get (by decide) e38)) hN) (mS (G_X4_get (by decide) e38)) (by decide) (fun _ => rfl) (Nat.le_of_ble_eq_true rfl) rfl (fun r42 s42 e42 => ?_)
  refine ag_aload_0 (q := 46) dX3_add_45 rfl ?_
  refine ag_getR (q := 49) dX3_add_46 rfl fl3_9 (Nat.lt_of_lt_of_le (by decide : 24 < NC) hN) (congrArg Prod.fst s_24) rfl r_24_2 ?_
  refine ag_iload_3 (q := 50) dX3_add_49 rfl ?_
  refine ag_iload_2 (q := 51) dX3_add_50 rfl ?_
  refine ag_iast (q := 52) dX3_add_51 rfl (Nat.lt_of_lt_of_le (by decide : 25 < NC) hN) s_25 ?_
  refine ag_aload_0 (q := 53) dX3_add_52 rfl ?_
  refine ag_dup (q := 54) dX3_add_53 rfl rfl ?_
  refine ag_getI (q := 57) dX3_add_54 rfl fl3_15 (Nat.lt_of_lt_of_le (by decide : 24 < NC) hN) (congrArg Prod.fst s_24) rfl ?_
  refine ag_iconst (q := 58) (v := 1) dX3_add_57 rfl (by decide) ?_
  refine ag_iadd (q := 59) dX3_add_58 rfl ?_
  refine ag_putI (q := 62) dX3_add_59 rfl fl3_15 (Nat.lt_of_lt_of_le (by decide : 24 < NC) hN) (congrArg Prod.fst s_24) rfl ?_
  exact ag_vret dX3_add_62 rfl rfl
def J_X3_add (a1 : Nat) (a2 : Int32) (σ : Sg) : Option (Unit × Sg) :=
  (if (σ 24 3) < (8 : Int32) then (J_X3_add_b24   a1 a2 σ) else (bd1 (J_X3_slot (1 : Int32) σ) fun r12 => (J_X3_add_b24   a1 a2 (up (up σ 24 4 r12) 24 3 (7 : Int32)))))
set_option maxHeartbeats 4000000 in
theorem A_X3_add (K : KT) {N : Nat} (hN : NC ≤ N) (a1 : Nat) (ha1 : isM a1 = true) (a2 : Int32) (σ : Sg) : AG K mX3_add N (fun a : Unit × Sg => (none, N, R0, a.2)) (J_X3_add a1 a2 σ) 0 [some (.ref 24), some (.ref a1), some (.int a2), none] [] σ := by
  unfold J_X3_add
  refine ag_aload_0 (q := 1) dX3_add_0 rfl ?_
  refine ag_getI (q := 4) dX3_add_1 rfl fl3_15 (Nat.lt_of_lt_of_le (by decide : 24 < NC) hN) (congrArg Prod.fst s_24) rfl ?_
  refine ag_bipush (q := 6) (v := 8) dX3_add_4 rfl (by decide) ?_
  refine ag_icmp_lt (tgt := 24) (q := 9) dX3_add_6 rfl rfl ?_ ?_
  · exact A_X3_add_b24 K hN   a1 ha1 a2 σ
  refine ag_aload_0 (q := 10) dX3_add_9 rfl ?_
  refine ag_aload_0 (q := 11) dX3_add_10 rfl ?_
  refine ag_iconst (q := 12) (v := 1) dX3_add_11 rfl (by decide) ?_
  refine ag_callV_pI (q := 15) (av := [.int _]) (rest := [.ref _]) dX3_add_12 rfl lk3_41 (C_X3_slot hN (1 : Int32) _) (by decide) (Nat.le_of_ble_eq_true rfl) (Nat.lt_of_lt_of_le (by decide : 24 < NC) hN) (congrArg Prod.fst s_24) (by decide) (fun _ => rfl) (Nat.le_of_ble_eq_true rfl) rfl (fun r12 e12 => ?_)
  refine ag_putI (q := 18) dX3_add_15 rfl fl3_19 (Nat.lt_of_lt_of_le (by decide : 24 < NC) hN) (congrArg Prod.fst s_24) rfl ?_
  refine ag_aload_0 (q := 19) dX3_add_18 rfl ?_
  refine ag_bipush (q := 21) (v := 7) dX3_add_19 rfl (by decide) ?_
  refine ag_putI (q := 24) dX3_add_21 rfl fl3_15 (Nat.lt_of_lt_of_le (by decide : 24 < NC) hN) (congrArg Prod.fst s_24) rfl ?_
  exact A_X3_add_b24 K hN   a1 ha1 a2 (up (up σ 24 4 r12) 24 3 (7 : Int32))
theorem C_X3_add {N : Nat} (hN : NC ≤ N) (a1 : Nat) (ha1 : isM a1 = true) (a2 : Int32) (σ : Sg) : ∀ r s', J_X3_add a1 a2 σ = some (r, s') → AMc yX3_add mX3_add [.ref 24, .ref a1, .int a2] N R0 σ (none, N, R0, s') := fun r s' e => AMc.of (L := [some (.ref 24), some (.ref a1), some (.int a2), none]) (by decide) rfl (fun _ => rfl) (fun _ => Nat.le_of_ble_eq_true rfl) (Nat.le_refl _) (fun K => A_X3_add K hN a1 ha1 a2 σ _ e (Nat.le_refl _))
def J_X3_otherwiseIs_b118  : Nat → Nat → Int32 → Sg → Option (Int32 × Sg)
  | 0, _, _, _ => none
  | k + 1, x3, x7, σ =>
    (if (σ 24 3) ≤ x7 then (some ((1 : Int32), σ)) else (bd1 (J_X2_lost x3 σ) fun r129 => (if r129 = 0 then (bd1 (J_X3_slot x7 σ) fun r142 => (if inb r142 8 = true then (bd2 (J_X2_live x3 (σ 25 r142.toNatClampNeg) σ) fun r151 s151 => (J_X3_otherwiseIs_b118   k x3 (x7 + (1)) s151)) else none)) else (bd2 (J_X2_live x3 (99 : Int32) σ) fun r151 s151 => (J_X3_otherwiseIs_b118   k x3 (x7 + (1)) s151)))))
set_option maxHeartbeats 4000000 in
theorem A_X3_otherwiseIs_b118 (K : KT) {N : Nat} (hN : NC ≤ N)  : ∀ (k : Nat) (x3 : Nat) (hx3 : isM x3 = true) (x7 : Int32) (σ : Sg), AG K mX3_otherwiseIs N (fun a : Int32 × Sg => (some (.int a.1), N, R0, a.2)) (J_X3_otherwiseIs_b118   k x3 x7 σ) 118 [some (.ref 24), none, none, some (.ref x3), none, none, none, some (.int x7)] [] σ := by
  intro k
  induction k with
  | zero => intro x3 hx3 x7 σ; exact ag_none
  | succ k ih =>
    intro x3 hx3 x7 σ
    rw [J_X3_otherwiseIs_b118]
    refine ag_iload_7 (q := 120) dX3_otherwiseIs_118 rfl ?_
    refine ag_aload_0 (q := 121) dX3_otherwiseIs_120 rfl ?_
    refine ag_getI (q := 124) dX3_otherwiseIs_121 rfl fl3_15 (Nat.lt_of_lt_of_le (by decide : 24 < NC) hN) (congrArg Prod.fst s_24) rfl ?_
    refine ag_icmp_ge (tgt := 160) (q := 127) dX3_otherwiseIs_124 rfl rfl ?_ ?_
    · refine ag_iconst (q := 161) (v := 1) dX3_otherwiseIs_160 rfl (by decide) ?_
      exact ag_zretK dX3_otherwiseIs_161 rfl (by decide) rfl
    refine ag_aload_3 (q := 128) dX3_otherwiseIs_127 rfl ?_
    refine ag_aload_3 (q := 129) dX3_otherwiseIs_128 rfl ?_
    refine ag_callV_pI (q := 132) (av := []) (rest := [.ref _]) dX3_otherwiseIs_129 rfl lk3_65 (C_X2_lost hN x3 hx3 _) (by decide) (Nat.le_of_ble_eq_true rfl) (nlt (mlt hx3) hN) (mS hx3) (by decide) (fun _ => rfl) (Nat.le_of_ble_eq_true rfl) rfl (fun r129 e129 => ?_)
    refine ag_if_ne (tgt := 149) (q := 135) dX3_otherwiseIs_132 rfl rfl ?_ ?_
    · refine ag_bipush (q := 151) (v := 99) dX3_otherwiseIs_149 rfl (by decide) ?_
      refine ag_callV_mU (q := 154) (av := [.int _]) (rest := []) dX3_otherwiseIs_151 rfl lk3_61 (C_X2_live hN x3 hx3 (99 : Int32) _) (by decide) (Nat.le_of_ble_eq_true rfl) (nlt (mlt hx3) hN) (mS hx3) (by decide) (fun _ => rfl) (Nat.le_of_ble_eq_true rfl) rfl (fun r151 s151 e151 => ?_)
      refine ag_iinc_7 (q := 157) (d := (1)) dX3_otherwiseIs_154 rfl (Nat.le_of_ble_eq_true rfl) rfl (by decide) ?_
      refine ag_goto (q := 118) dX3_otherwiseIs_157 rfl ?_
      exact ih x3 hx3 (x7 + (1)) s151
    refine ag_aload_0 (q := 136) dX3_otherwiseIs_135 rfl ?_
    refine ag_getR (q := 139) dX3_otherwiseIs_136 rfl fl3_9 (Nat.lt_of_lt_of_le (by decide : 24 < NC) hN) (congrArg Prod.fst s_24) rfl r_24_2 ?_
    refine ag_aload_0 (q := 140) dX3_otherwiseIs_139 rfl ?_
    refine ag_iload_7 (q := 142) dX3_otherwiseIs_140 rfl ?_
    refine ag_callV_pI (q := 145) (av := [.int _]) (rest := [.ref _, .ref _]) dX3_otherwiseIs_142 rfl lk3_41 (C_X3_slot hN x7 _) (by decide) (Nat.le_of_ble_eq_true rfl) (Nat.lt_of_lt_of_le (by decide : 24 < NC) hN) (congrArg Prod.fst s_24) (by decide) (fun _ => rfl) (Nat.le_of_ble_eq_true rfl) rfl (fun r142 e142 => ?_)
    refine ag_iald (q := 146) dX3_otherwiseIs_145 rfl (Nat.lt_of_lt_of_le (by decide : 25 < NC) hN) s_25 ?_
    refine ag_goto (q := 151) dX3_otherwiseIs_146 rfl ?_
    refine ag_callV_mU (q := 154) (av := [.int _]) (rest := []) dX3_otherwiseIs_151 rfl lk3_61 (C_X2_live hN x3 hx3 (σ 25 r142.toNatClampNeg) _) (by decide) (Nat.le_of_ble_eq_true rfl) (nlt (mlt hx3) hN) (mS hx3) (by decide) (fun _ => rfl) (Nat.le_of_ble_eq_true rfl) rfl (fun r151 s151 e151 => ?_)
    refine ag_iinc_7 (q := 157) (d := (1)) dX3_otherwiseIs_154 rfl (Nat.le_of_ble_eq_true rfl) rfl (by decide) ?_
    refine ag_goto (q := 118) dX3_otherwiseIs_157 rfl ?_
    exact ih x3 hx3 (x7 + (1)) s151
def J_X3_otherwiseIs_b67  (x2 : Int32) (x3 : Nat) (x4 : Int32) (σ : Sg) : Option (Int32 × Sg) :=
  (bd1 (J_X3_before x4 σ) fun r70 => (if x2 = (99 : Int32) then (bd2 (J_X2_copyFrom x3 r70 σ) fun r104 s104 => (bd2 (J_X2_live x3 x2 s104) fun r109 s109 => (J_X3_otherwiseIs_b118   FU x3 (x4 + (1 : Int32)) s109))) else (bd1 (J_X2_driven r70 (x2 / (10 : Int32)) (rmI x2 (10 : Int32)) σ) fun r91 => (if r91 = (-4 : Int32) then (some ((0 : Int32), σ)) else (bd2 (J_X2_copyFrom x3 r70 σ) fun r104 s104 => (bd2 (J_X2_live x3 x2 s104) fun r109 s109 => (J_X3_otherwiseIs_b118   FU x3 (x4 + (1 : Int32)) s109)))))))
set_option maxHeartbeats 4000000 in
theorem A_X3_otherwiseIs_b67 (K : KT) {N : Nat} (hN : NC ≤ N)  (x2 : Int32) (x3 : Nat) (hx3 : isM x3 = true) (x4 : Int32) (σ : Sg) : AG K mX3_otherwiseIs N (fun a : Int32 × Sg => (some (.int a.1), N, R0, a.2)) (J_X3_otherwiseIs_b67   x2 x3 x4 σ) 67 [some (.ref 24), none, some (.int x2), some (.ref x3), some (.int x4), none, none, none] [] σ := by
  unfold J_X3_otherwiseIs_b67
  refine ag_aload_0 (q := 68) dX3_otherwiseIs_67 rfl ?_
  refine ag_iload_4 (q := 70) dX3_otherwiseIs_68 rfl ?_
  refine ag_callV_pR (q := 73) (av := [.int _]) (rest := []) dX3_otherwiseIs_70 rfl lk3_55 (C_X3_before hN x4 _) (by decide) (Nat.le_of_ble_eq_true rfl) (Nat.lt_of_lt_of_le (by decide : 24 < NC) hN) (congrArg Prod.fst s_24) (by decide) (fun _ => rfl) (Nat.le_of_ble_eq_true rfl) rfl (fun r70 e70 => ?_)
  refine ag_astore_6 (q := 75) dX3_otherwiseIs_73 rfl (Nat.le_of_ble_eq_true rfl) rfl ?_
  refine ag_iload_2 (q := 76) dX3_otherwiseIs_75 rfl ?_
  refine ag_bipush (q := 78) (v := 99) dX3_otherwiseIs_76 rfl (by decide) ?_
  refine ag_icmp_eq (tgt := 101) (q := 81) dX3_otherwiseIs_78 rfl rfl ?_ ?_
  · refine ag_aload_3 (q := 102) dX3_otherwiseIs_101 rfl ?_
    refine ag_aload_6 (q := 104) dX3_otherwiseIs_102 rfl ?_
    refine ag_callV_mU (q := 107) (av := [.ref _]) (rest := []) dX3_otherwiseIs_104 rfl lk3_49 (C_X2_copyFrom hN x3 hx3 r70 (G_X3_before e70) _) (by decide) (Nat.le_of_ble_eq_true rfl) (nlt (mlt hx3) hN) (mS hx3) (by decide) (fun _ => rfl) (Nat.le_of_ble_eq_true rfl) rfl (fun r104 s104 e104 => ?_)
    refine ag_aload_3 (q := 108) dX3_otherwiseIs_107 rfl ?_
    refine ag_iload_2 (q := 109) dX3_otherwiseIs_108 rfl ?_
    refine ag_callV_mU (q := 112) (av := [.int _]) (rest := []) dX3_otherwiseIs_109 rfl lk3_61 (C_X2_live hN x3 hx3 x2 _) (by decide) (Nat.le_of_ble_eq_true rfl) (nlt (mlt hx3) hN) (mS hx3) (by decide) (fun _ => rfl) (Nat.le_of_ble_eq_true rfl) rfl (fun r109 s109 e109 => ?_)
    refine ag_iload_4 (q := 114) dX3_otherwiseIs_112 rfl ?_
    refine ag_iconst (q := 115) (v := 1) dX3_otherwiseIs_114 rfl (by decide) ?_
    refine ag_iadd (q := 116) dX3_otherwiseIs_115 rfl ?_
    refine ag_istore_7 (q := 118) dX3_otherwiseIs_116 rfl (Nat.le_of_ble_eq_true rfl) rfl ?_
    refine ag_kill_2 ?_
    refine ag_kill_4 ?_
    refine ag_kill_6 ?_
    exact A_X3_otherwiseIs_b118 K hN   FU x3 hx3 (x4 + (1 : Int32)) s109
  refine ag_aload_6 (q := 83) dX3_otherwiseIs_81 rfl ?_
  refine ag_iload_2 (q := 84) dX3_otherwiseIs_83 rfl ?_
  refine ag_bipush (q := 86) (v := 10) dX3_otherwiseIs_84 rfl (by decide) ?_
  refine ag_idivK (q := 87) dX3_otherwiseIs_86 rfl (by decide) ?_
  refine ag_iload_2 (q := 88) dX3_otherwiseIs_87 rfl ?_
  refine ag_bipush (q := 90) (v := 10) dX3_otherwiseIs_88 rfl (by decide) ?_
  refine ag_iremK (q := 91) dX3_otherwiseIs_90 rfl (by decide) ?_
  refine ag_callV_pI (q := 94) (av := [.int _, .int _]) (rest := []) dX3_otherwiseIs_91 rfl lk3_58 (C_X2_driven hN r70 (G_X3_before e70) (x2 / (10 : Int32)) (rmI x2 (10 : Int32)) _) (by decide) (Nat.le_of_ble_eq_true rfl) (nlt (mlt (G_X3_before e70)) hN) (mS (G_X3_before e70)) (by decide) (fun _ => rfl) (Nat.le_of_ble_eq_true rfl) rfl (fun r91 e91 => ?_)
  refine ag_bipush (q := 96) (v := -4) dX3_otherwiseIs_94 rfl (by decide) ?_
  refine ag_icmp_ne (tgt := 101) (q := 99) dX3_otherwiseIs_96 rfl rfl ?_ ?_
  · refine ag_aload_3 (q := 102) dX3_otherwiseIs_101 rfl ?_
    refine ag_aload_6 (q := 104) dX3_otherwiseIs_102 rfl ?_
    refine ag_callV_mU (q := 107) (av := [.ref _]) (rest := []) dX3_otherwiseIs_104 rfl lk3_49 (C_X2_copyFrom hN x3 hx3 r70 (G_X3_before e70) _) (by decide) (Nat.le_of_ble_eq_true rfl) (nlt (mlt hx3) hN) (mS hx3) (by decide) (fun _ => rfl) (Nat.le_of_ble_eq_true rfl) rfl (fun r104 s104 e104 => ?_)
    refine ag_aload_3 (q := 108) dX3_otherwiseIs_107 rfl ?_
    refine ag_iload_2 (q := 109) dX3_otherwiseIs_108 rfl ?_
    refine ag_callV_mU (q := 112) (av := [.int _]) (rest := []) dX3_otherwiseIs_109 rfl lk3_61 (C_X2_live hN x3 hx3 x2 _) (by decide) (Nat.le_of_ble_eq_true rfl) (nlt (mlt hx3) hN) (mS hx3) (by decide) (fun _ => rfl) (Nat.le_of_ble_eq_true rfl) rfl (fun r109 s109 e109 => ?_)
    refine ag_iload_4 (q := 114) dX3_otherwiseIs_112 rfl ?_
    refine ag_iconst (q := 115) (v := 1) dX3_otherwiseIs_114 rfl (by decide) ?_
    refine ag_iadd (q := 116) dX3_otherwiseIs_115 rfl ?_
    refine ag_istore_7 (q := 118) dX3_otherwiseIs_116 rfl (Nat.le_of_ble_eq_true rfl) rfl ?_
    refine ag_kill_2 ?_
    refine ag_kill_4 ?_
    refine ag_kill_6 ?_
    exact A_X3_otherwiseIs_b118 K hN   FU x3 hx3 (x4 + (1 : Int32)) s109
  refine ag_iconst (q := 100) (v := 0) dX3_otherwiseIs_99 rfl (by decide) ?_
  exact ag_zretK dX3_otherwiseIs_100 rfl (by decide) rfl
def J_X3_otherwiseIs (a1 : Int32) (a2 : Int32) (a3 : Nat) (σ : Sg) : Option (Int32 × Sg) :=
  (if (((σ 24 3) - (1 : Int32)) - a1) < 0 then (some ((0 : Int32), σ)) else (if 0 ≤ a1 then (bd1 (J_X3_slot (((σ 24 3) - (1 : Int32)) - a1) σ) fun r28 => (if inb r28 8 = true then (if a2 = (σ 25 r28.toNatClampNeg) then (some ((0 : Int32), σ)) else (if a2 = (99 : Int32) then (J_X3_otherwiseIs_b67   a2 a3 (((σ 24 3) - (1 : Int32)) - a1) σ) else (if (σ 25 r28.toNatClampNeg) = (99 : Int32) then (J_X3_otherwiseIs_b67   a2 a3 (((σ 24 3) - (1 : Int32)) - a1) σ) else (if (a2 / (10 : Int32)) = ((σ 25 r28.toNatClampNeg) / (10 : Int32)) then (J_X3_otherwiseIs_b67   a2 a3 (((σ 24 3) - (1 : Int32)) - a1) σ) else (some ((0 : Int32), σ)))))) else none)) else (some ((0 : Int32), σ))))
set_option maxHeartbeats 4000000 in
theorem A_X3_otherwiseIs (K : KT) {N : Nat} (hN : NC ≤ N) (a1 : Int32) (a2 : Int32) (a3 : Nat) (ha3 : isM a3 = true) (σ : Sg) : AG K mX3_otherwiseIs N (fun a : Int32 × Sg => (some (.int a.1), N, R0, a.2)) (J_X3_otherwiseIs a1 a2 a3 σ) 0 [some (.ref 24), some (.int a1), some (.int a2), some (.ref a3), none, none, none, none] [] σ := by
  unfold J_X3_otherwiseIs
  refine ag_aload_0 (q := 1) dX3_otherwiseIs_0 rfl ?_
  refine ag_getI (q := 4) dX3_otherwiseIs_1 rfl fl3_15 (Nat.lt_of_lt_of_le (by decide : 24 < NC) hN) (congrArg Prod.fst s_24) rfl ?_
  refine ag_iconst (q := 5) (v := 1) dX3_otherwiseIs_4 rfl (by decide) ?_
  refine ag_isub (q := 6) dX3_otherwiseIs_5 rfl ?_
  refine ag_iload_1 (q := 7) dX3_otherwiseIs_6 rfl ?_
  refine ag_isub (q := 8) dX3_otherwiseIs_7 rfl ?_
  refine ag_istore_4 (q := 10) dX3_otherwiseIs_8 rfl (Nat.le_of_ble_eq_true rfl) rfl ?_
  refine ag_iload_4 (q := 12) dX3_otherwiseIs_10 rfl ?_
  refine ag_if_lt (tgt := 19) (q := 15) dX3_otherwiseIs_12 rfl rfl ?_ ?_
  · refine ag_iconst (q := 20) (v := 0) dX3_otherwiseIs_19 rfl (by decide) ?_
    exact ag_zretK dX3_otherwiseIs_20 rfl (by decide) rfl
  refine ag_iload_1 (q := 16) dX3_otherwiseIs_15 rfl ?_
  refine ag_if_ge (tgt := 21) (q := 19) dX3_otherwiseIs_16 rfl rfl ?_ ?_
  · refine ag_aload_0 (q := 22) dX3_otherwiseIs_21 rfl ?_
    refine ag_getR (q := 25) dX3_otherwiseIs_22 rfl fl3_9 (Nat.lt_of_lt_of_le (by decide : 24 < NC) hN) (congrArg Prod.fst s_24) rfl r_24_2 ?_
    refine ag_aload_0 (q := 26) dX3_otherwiseIs_25 rfl ?_
    refine ag_iload_4 (q := 28) dX3_otherwiseIs_26 rfl ?_
    refine ag_callV_pI (q := 31) (av := [.int _]) (rest := [.ref _]) dX3_otherwiseIs_28 rfl lk3_41 (C_X3_slot hN (((σ 24 3) - (1 : Int32)) - a1) _) (by decide) (Nat.le_of_ble_eq_true rfl) (Nat.lt_of_lt_of_le (by decide : 24 < NC) hN) (congrArg Prod.fst s_24) (by decide) (fun _ => rfl) (Nat.le_of_ble_eq_true rfl) rfl (fun r28 e28 => ?_)
    refine ag_iald (q := 32) dX3_otherwiseIs_31 rfl (Nat.lt_of_lt_of_le (by decide : 25 < NC) hN) s_25 ?_
    refine ag_istore_5 (q := 34) dX3_otherwiseIs_32 rfl (Nat.le_of_ble_eq_true rfl) rfl ?_
    refine ag_iload_2 (q := 35) dX3_otherwiseIs_34 rfl ?_
    refine ag_iload_5 (q := 37) dX3_otherwiseIs_35 rfl ?_
    refine ag_icmp_eq (tgt := 65) (q := 40) dX3_otherwiseIs_37 rfl rfl ?_ ?_
    · refine ag_iconst (q := 66) (v := 0) dX3_otherwiseIs_65 rfl (by decide) ?_
      exact ag_zretK dX3_otherwiseIs_66 rfl (by decide) rfl
    refine ag_iload_2 (q := 41) dX3_otherwiseIs_40 rfl ?_
    refine ag_bipush (q := 43) (v := 99) dX3_otherwiseIs_41 rfl (by decide) ?_
    refine ag_icmp_eq (tgt := 67) (q := 46) dX3_otherwiseIs_43 rfl rfl ?_ ?_
    · refine ag_kill_1 ?_
      refine ag_kill_5 ?_
      exact A_X3_otherwiseIs_b67 K hN   a2 a3 ha3 (((σ 24 3) - (1 : Int32)) - a1) σ
    refine ag_iload_5 (q := 48) dX3_otherwiseIs_46 rfl ?_
    refine ag_bipush (q := 50) (v := 99) dX3_otherwiseIs_48 rfl (by decide) ?_
    refine ag_icmp_eq (tgt := 67) (q := 53) dX3_otherwiseIs_50 rfl rfl ?_ ?_
    · refine ag_kill_1 ?_
      refine ag_kill_5 ?_
      exact A_X3_otherwiseIs_b67 K hN   a2 a3 ha3 (((σ 24 3) - (1 : Int32)) - a1) σ
    refine ag_iload_2 (q := 54) dX3_otherwiseIs_53 rfl ?_
    refine ag_bipush (q := 56) (v := 10) dX3_otherwiseIs_54 rfl (by decide) ?_
    refine ag_idivK (q := 57) dX3_otherwiseIs_56 rfl (by decide) ?_
    refine ag_iload_5 (q := 59) dX3_otherwiseIs_57 rfl ?_
    refine ag_bipush (q := 61) (v := 10) dX3_otherwiseIs_59 rfl (by decide) ?_
    refine ag_idivK (q := 62) dX3_otherwiseIs_61 rfl (by decide) ?_
    refine ag_icmp_eq (tgt := 67) (q := 65) dX3_otherwiseIs_62 rfl rfl ?_ ?_
    · refine ag_kill_1 ?_
      refine ag_kill_5 ?_
      exact A_X3_otherwiseIs_b67 K hN   a2 a3 ha3 (((σ 24 3) - (1 : Int32)) - a1) σ
    refine ag_iconst (q := 66) (v := 0) dX3_otherwiseIs_65 rfl (by decide) ?_
    exact ag_zretK dX3_otherwiseIs_66 rfl (by decide) rfl
  refine ag_iconst (q := 20) (v := 0) dX3_otherwiseIs_19 rfl (by decide) ?_
  exact ag_zretK dX3_otherwiseIs_20 rfl (by decide) rfl
theorem C_X3_otherwiseIs {N : Nat} (hN : NC ≤ N) (a1 : Int32) (a2 : Int32) (a3 : Nat) (ha3 : isM a3 = true) (σ : Sg) : ∀ r s', J_X3_otherwiseIs a1 a2 a3 σ = some (r, s') → AMc yX3_otherwiseIs mX3_otherwiseIs [.ref 24, .int a1, .int a2, .ref a3] N R0 σ (some (.int r), N, R0, s') := fun r s' e => AMc.of (L := [some (.ref 24), some (.int a1), some (.int a2), some (.ref a3), none, none, none, none]) (by decide) rfl (fun _ => rfl) (fun _ => Nat.le_of_ble_eq_true rfl) (Nat.le_refl _) (fun K => A_X3_otherwiseIs K hN a1 a2 a3 ha3 σ _ e (Nat.le_refl _))
def J_X5_add (a1 : Int32) (σ : Sg) : Option (Int32 × Sg) :=
  (if (σ 4 3) < 0 then (some ((0 : Int32), σ)) else (if (σ 4 3) < (200 : Int32) then (if inb (σ 4 3) 200 = true then (some ((1 : Int32), (up (up σ 5 (σ 4 3).toNatClampNeg a1) 4 3 (((up σ 5 (σ 4 3).toNatClampNeg a1) 4 3) + (1 : Int32))))) else none) else (some ((0 : Int32), σ))))
set_option maxHeartbeats 4000000 in
theorem A_X5_add (K : KT) {N : Nat} (hN : NC ≤ N) (a1 : Int32) (σ : Sg) : AG K mX5_add N (fun a : Int32 × Sg => (some (.int a.1), N, R0, a.2)) (J_X5_add a1 σ) 0 [some (.ref 4), some (.int a1)] [] σ := by
  unfold J_X5_add
  refine ag_aload_0 (q := 1) dX5_add_0 rfl ?_
  refine ag_getI (q := 4) dX5_add_1 rfl fl5_31 (Nat.lt_of_lt_of_le (by decide : 4 < NC) hN) (congrArg Prod.fst s_4) rfl ?_
  refine ag_if_lt (tgt := 17) (q := 7) dX5_add_4 rfl rfl ?_ ?_
  · refine ag_iconst (q := 18) (v := 0) dX5_add_17 rfl (by decide) ?_
    exact ag_zretK dX5_add_18 rfl (by decide) rfl
  refine ag_aload_0 (q := 8) dX5_add_7 rfl ?_
  refine ag_getI (q := 11) dX5_add_8 rfl fl5_31 (Nat.lt_of_lt_of_le (by decide : 4 < NC) hN) (congrArg Prod.fst s_4) rfl ?_
  refine ag_sipush (q := 14) (v := 200) dX5_add_11 rfl (by decide) ?_
  refine ag_icmp_lt (tgt := 19) (q := 17) dX5_add_14 rfl rfl ?_ ?_
  · refine ag_aload_0 (q := 20) dX5_add_19 rfl ?_
    refine ag_getR (q := 23) dX5_add_20 rfl fl5_9 (Nat.lt_of_lt_of_le (by decide : 4 < NC) hN) (congrArg Prod.fst s_4) rfl r_4_0 ?_
    refine ag_aload_0 (q := 24) dX5_add_23 rfl ?_
    refine ag_getI (q := 27) dX5_add_24 rfl fl5_31 (Nat.lt_of_lt_of_le (by decide : 4 < NC) hN) (congrArg Prod.fst s_4) rfl ?_
    refine ag_iload_1 (q := 28) dX5_add_27 rfl ?_
    refine ag_iast (q := 29) dX5_add_28 rfl (Nat.lt_of_lt_of_le (by decide : 5 < NC) hN) s_5 ?_
    refine ag_aload_0 (q := 30) dX5_add_29 rfl ?_
    refine ag_dup (q := 31) dX5_add_30 rfl rfl ?_
    refine ag_getI (q := 34) dX5_add_31 rfl fl5_31 (Nat.lt_of_lt_of_le (by decide : 4 < NC) hN) (congrArg Prod.fst s_4) rfl ?_
    refine ag_iconst (q := 35) (v := 1) dX5_add_34 rfl (by decide) ?_
    refine ag_iadd (q := 36) dX5_add_35 rfl ?_
    refine ag_putI (q := 39) dX5_add_36 rfl fl5_31 (Nat.lt_of_lt_of_le (by decide : 4 < NC) hN) (congrArg Prod.fst s_4) rfl ?_
    refine ag_iconst (q := 40) (v := 1) dX5_add_39 rfl (by decide) ?_
    exact ag_zretK dX5_add_40 rfl (by decide) rfl
  refine ag_iconst (q := 18) (v := 0) dX5_add_17 rfl (by decide) ?_
  exact ag_zretK dX5_add_18 rfl (by decide) rfl
theorem C_X5_add {N : Nat} (hN : NC ≤ N) (a1 : Int32) (σ : Sg) : ∀ r s', J_X5_add a1 σ = some (r, s') → AMc yX5_add mX5_add [.ref 4, .int a1] N R0 σ (some (.int r), N, R0, s') := fun r s' e => AMc.of (L := [some (.ref 4), some (.int a1)]) (by decide) rfl (fun _ => rfl) (fun _ => Nat.le_of_ble_eq_true rfl) (Nat.le_refl _) (fun K => A_X5_add K hN a1 σ _ e (Nat.le_refl _))
def J_X5_letterAtHead  (σ : Sg) : Option Int32 :=
  (if (σ 4 4) < 0 then (some (0 : Int32)) else (if (σ 4 3) ≤ (σ 4 4) then (some (0 : Int32)) else (if (200 : Int32) ≤ (σ 4 4) then (some (0 : Int32)) else (if inb (σ 4 4) 200 = true then (some (σ 5 (σ 4 4).toNatClampNeg)) else none))))
set_option maxHeartbeats 4000000 in
theorem A_X5_letterAtHead (K : KT) {N : Nat} (hN : NC ≤ N)  (σ : Sg) : AG K mX5_letterAtHead N (fun a : Int32 => (some (.int a), N, R0, σ)) (J_X5_letterAtHead  σ) 0 [some (.ref 4)] [] σ := by
  unfold J_X5_letterAtHead
  refine ag_aload_0 (q := 1) dX5_letterAtHead_0 rfl ?_
  refine ag_getI (q := 4) dX5_letterAtHead_1 rfl fl5_35 (Nat.lt_of_lt_of_le (by decide : 4 < NC) hN) (congrArg Prod.fst s_4) rfl ?_
  refine ag_if_lt (tgt := 40) (q := 7) dX5_letterAtHead_4 rfl rfl ?_ ?_
  · refine ag_iconst (q := 41) (v := 0) dX5_letterAtHead_40 rfl (by decide) ?_
    exact ag_iret dX5_letterAtHead_41 rfl rfl
  refine ag_aload_0 (q := 8) dX5_letterAtHead_7 rfl ?_
  refine ag_getI (q := 11) dX5_letterAtHead_8 rfl fl5_35 (Nat.lt_of_lt_of_le (by decide : 4 < NC) hN) (congrArg Prod.fst s_4) rfl ?_
  refine ag_aload_0 (q := 12) dX5_letterAtHead_11 rfl ?_
  refine ag_getI (q := 15) dX5_letterAtHead_12 rfl fl5_31 (Nat.lt_of_lt_of_le (by decide : 4 < NC) hN) (congrArg Prod.fst s_4) rfl ?_
  refine ag_icmp_ge (tgt := 40) (q := 18) dX5_letterAtHead_15 rfl rfl ?_ ?_
  · refine ag_iconst (q := 41) (v := 0) dX5_letterAtHead_40 rfl (by decide) ?_
    exact ag_iret dX5_letterAtHead_41 rfl rfl
  refine ag_aload_0 (q := 19) dX5_letterAtHead_18 rfl ?_
  refine ag_getI (q := 22) dX5_letterAtHead_19 rfl fl5_35 (Nat.lt_of_lt_of_le (by decide : 4 < NC) hN) (congrArg Prod.fst s_4) rfl ?_
  refine ag_sipush (q := 25) (v := 200) dX5_letterAtHead_22 rfl (by decide) ?_
  refine ag_icmp_ge (tgt := 40) (q := 28) dX5_letterAtHead_25 rfl rfl ?_ ?_
  · refine ag_iconst (q := 41) (v := 0) dX5_letterAtHead_40 rfl (by decide) ?_
    exact ag_iret dX5_letterAtHead_41 rfl rfl
  refine ag_aload_0 (q := 29) dX5_letterAtHead_28 rfl ?_
  refine ag_getR (q := 32) dX5_letterAtHead_29 rfl fl5_9 (Nat.lt_of_lt_of_le (by decide : 4 < NC) hN) (congrArg Prod.fst s_4) rfl r_4_0 ?_
  refine ag_aload_0 (q := 33) dX5_letterAtHead_32 rfl ?_
  refine ag_getI (q := 36) dX5_letterAtHead_33 rfl fl5_35 (Nat.lt_of_lt_of_le (by decide : 4 < NC) hN) (congrArg Prod.fst s_4) rfl ?_
  refine ag_iald (q := 37) dX5_letterAtHead_36 rfl (Nat.lt_of_lt_of_le (by decide : 5 < NC) hN) s_5 ?_
  refine ag_goto (q := 41) dX5_letterAtHead_37 rfl ?_
  exact ag_iret dX5_letterAtHead_41 rfl rfl
theorem C_X5_letterAtHead {N : Nat} (hN : NC ≤ N)  (σ : Sg) : ∀ r, J_X5_letterAtHead  σ = some r → AMc yX5_letterAtHead mX5_letterAtHead [.ref 4] N R0 σ (some (.int r), N, R0, σ) := fun r e => AMc.of (L := [some (.ref 4)]) (by decide) rfl (fun _ => rfl) (fun _ => Nat.le_of_ble_eq_true rfl) (Nat.le_refl _) (fun K => A_X5_letterAtHead K hN  σ _ e (Nat.le_refl _))
def J_X5_readFigure_b41  (w0 : Int32) (σ : Sg) : Option (Int32 × Sg) :=
  (if w0 < (48 : Int32) then (some ((-4 : Int32), σ)) else (if w0 ≤ (57 : Int32) then (some ((w0 - (48 : Int32)), (up σ 4 4 ((σ 4 4) + (1 : Int32))))) else (some ((-4 : Int32), σ))))
set_option maxHeartbeats 4000000 in
theorem A_X5_readFigure_b41 (K : KT) {N : Nat} (hN : NC ≤ N)  (w0 : Int32) (σ : Sg) : AG K mX5_readFigure N (fun a : Int32 × Sg => (some (.int a.1), N, R0, a.2)) (J_X5_readFigure_b41   w0 σ) 41 [some (.ref 4), none] [.int w0] σ := by
  unfold J_X5_readFigure_b41
  refine ag_istore_1 (q := 42) dX5_readFigure_41 rfl (Nat.le_of_ble_eq_true rfl) rfl ?_
  refine ag_iload_1 (q := 43) dX5_readFigure_42 rfl ?_
  refine ag_bipush (q := 45) (v := 48) dX5_readFigure_43 rfl (by decide) ?_
  refine ag_icmp_lt (tgt := 54) (q := 48) dX5_readFigure_45 rfl rfl ?_ ?_
  · refine ag_bipush (q := 56) (v := -4) dX5_readFigure_54 rfl (by decide) ?_
    exact ag_iret dX5_readFigure_56 rfl rfl
  refine ag_iload_1 (q := 49) dX5_readFigure_48 rfl ?_
  refine ag_bipush (q := 51) (v := 57) dX5_readFigure_49 rfl (by decide) ?_
  refine ag_icmp_le (tgt := 57) (q := 54) dX5_readFigure_51 rfl rfl ?_ ?_
  · refine ag_aload_0 (q := 58) dX5_readFigure_57 rfl ?_
    refine ag_dup (q := 59) dX5_readFigure_58 rfl rfl ?_
    refine ag_getI (q := 62) dX5_readFigure_59 rfl fl5_35 (Nat.lt_of_lt_of_le (by decide : 4 < NC) hN) (congrArg Prod.fst s_4) rfl ?_
    refine ag_iconst (q := 63) (v := 1) dX5_readFigure_62 rfl (by decide) ?_
    refine ag_iadd (q := 64) dX5_readFigure_63 rfl ?_
    refine ag_putI (q := 67) dX5_readFigure_64 rfl fl5_35 (Nat.lt_of_lt_of_le (by decide : 4 < NC) hN) (congrArg Prod.fst s_4) rfl ?_
    refine ag_iload_1 (q := 68) dX5_readFigure_67 rfl ?_
    refine ag_bipush (q := 70) (v := 48) dX5_readFigure_68 rfl (by decide) ?_
    refine ag_isub (q := 71) dX5_readFigure_70 rfl ?_
    exact ag_iret dX5_readFigure_71 rfl rfl
  refine ag_bipush (q := 56) (v := -4) dX5_readFigure_54 rfl (by decide) ?_
  exact ag_iret dX5_readFigure_56 rfl rfl
def J_X5_readFigure  (σ : Sg) : Option (Int32 × Sg) :=
  (if (σ 4 4) < 0 then (J_X5_readFigure_b41   (0 : Int32) σ) else (if (σ 4 3) ≤ (σ 4 4) then (J_X5_readFigure_b41   (0 : Int32) σ) else (if (200 : Int32) ≤ (σ 4 4) then (J_X5_readFigure_b41   (0 : Int32) σ) else (if inb (σ 4 4) 200 = true then (J_X5_readFigure_b41   (σ 5 (σ 4 4).toNatClampNeg) σ) else none))))
set_option maxHeartbeats 4000000 in
theorem A_X5_readFigure (K : KT) {N : Nat} (hN : NC ≤ N)  (σ : Sg) : AG K mX5_readFigure N (fun a : Int32 × Sg => (some (.int a.1), N, R0, a.2)) (J_X5_readFigure  σ) 0 [some (.ref 4), none] [] σ := by
  unfold J_X5_readFigure
  refine ag_aload_0 (q := 1) dX5_readFigure_0 rfl ?_
  refine ag_getI (q := 4) dX5_readFigure_1 rfl fl5_35 (Nat.lt_of_lt_of_le (by decide : 4 < NC) hN) (congrArg Prod.fst s_4) rfl ?_
  refine ag_if_lt (tgt := 40) (q := 7) dX5_readFigure_4 rfl rfl ?_ ?_
  · refine ag_iconst (q := 41) (v := 0) dX5_readFigure_40 rfl (by decide) ?_
    exact A_X5_readFigure_b41 K hN   (0 : Int32) σ
  refine ag_aload_0 (q := 8) dX5_readFigure_7 rfl ?_
  refine ag_getI (q := 11) dX5_readFigure_8 rfl fl5_35 (Nat.lt_of_lt_of_le (by decide : 4 < NC) hN) (congrArg Prod.fst s_4) rfl ?_
  refine ag_aload_0 (q := 12) dX5_readFigure_11 rfl ?_
  refine ag_getI (q := 15) dX5_readFigure_12 rfl fl5_31 (Nat.lt_of_lt_of_le (by decide : 4 < NC) hN) (congrArg Prod.fst s_4) rfl ?_
  refine ag_icmp_ge (tgt := 40) (q := 18) dX5_readFigure_15 rfl rfl ?_ ?_
  · refine ag_iconst (q := 41) (v := 0) dX5_readFigure_40 rfl (by decide) ?_
    exact A_X5_readFigure_b41 K hN   (0 : Int32) σ
  refine ag_aload_0 (q := 19) dX5_readFigure_18 rfl ?_
  refine ag_getI (q := 22) dX5_readFigure_19 rfl fl5_35 (Nat.lt_of_lt_of_le (by decide : 4 < NC) hN) (congrArg Prod.fst s_4) rfl ?_
  refine ag_sipush (q := 25) (v := 200) dX5_readFigure_22 rfl (by decide) ?_
  refine ag_icmp_ge (tgt := 40) (q := 28) dX5_readFigure_25 rfl rfl ?_ ?_
  · refine ag_iconst (q := 41) (v := 0) dX5_readFigure_40 rfl (by decide) ?_
    exact A_X5_readFigure_b41 K hN   (0 : Int32) σ
  refine ag_aload_0 (q := 29) dX5_readFigure_28 rfl ?_
  refine ag_getR (q := 32) dX5_readFigure_29 rfl fl5_9 (Nat.lt_of_lt_of_le (by decide : 4 < NC) hN) (congrArg Prod.fst s_4) rfl r_4_0 ?_
  refine ag_aload_0 (q := 33) dX5_readFigure_32 rfl ?_
  refine ag_getI (q := 36) dX5_readFigure_33 rfl fl5_35 (Nat.lt_of_lt_of_le (by decide : 4 < NC) hN) (congrArg Prod.fst s_4) rfl ?_
  refine ag_iald (q := 37) dX5_readFigure_36 rfl (Nat.lt_of_lt_of_le (by decide : 5 < NC) hN) s_5 ?_
  refine ag_goto (q := 41) dX5_readFigure_37 rfl ?_
  exact A_X5_readFigure_b41 K hN   (σ 5 (σ 4 4).toNatClampNeg) σ
theorem C_X5_readFigure {N : Nat} (hN : NC ≤ N)  (σ : Sg) : ∀ r s', J_X5_readFigure  σ = some (r, s') → AMc yX5_readFigure mX5_readFigure [.ref 4] N R0 σ (some (.int r), N, R0, s') := fun r s' e => AMc.of (L := [some (.ref 4), none]) (by decide) rfl (fun _ => rfl) (fun _ => Nat.le_of_ble_eq_true rfl) (Nat.le_refl _) (fun K => A_X5_readFigure K hN  σ _ e (Nat.le_refl _))
def J_X5_passes (a1 : Int32) (σ : Sg) : Option (Int32 × Sg) :=
  (bd1 (J_X5_letterAtHead  σ) fun r1 => (if r1 = a1 then (some ((1 : Int32), (up σ 4 4 ((σ 4 4) + (1 : Int32))))) else (some ((0 : Int32), σ))))
set_option maxHeartbeats 4000000 in
theorem A_X5_passes (K : KT) {N : Nat} (hN : NC ≤ N) (a1 : Int32) (σ : Sg) : AG K mX5_passes N (fun a : Int32 × Sg => (some (.int a.1), N, R0, a.2)) (J_X5_passes a1 σ) 0 [some (.ref 4), some (.int a1)] [] σ := by
  unfold J_X5_passes
  refine ag_aload_0 (q := 1) dX5_passes_0 rfl ?_
  refine ag_callV_pI (q := 4) (av := []) (rest := []) dX5_passes_1 rfl lk5_48 (C_X5_letterAtHead hN  _) (by decide) (Nat.le_of_ble_eq_true rfl) (Nat.lt_of_lt_of_le (by decide : 4 < NC) hN) (congrArg Prod.fst s_4) (by decide) (fun _ => rfl) (Nat.le_of_ble_eq_true rfl) rfl (fun r1 e1 => ?_)
  refine ag_iload_1 (q := 5) dX5_passes_4 rfl ?_
  refine ag_icmp_eq (tgt := 10) (q := 8) dX5_passes_5 rfl rfl ?_ ?_
  · refine ag_aload_0 (q := 11) dX5_passes_10 rfl ?_
    refine ag_dup (q := 12) dX5_passes_11 rfl rfl ?_
    refine ag_getI (q := 15) dX5_passes_12 rfl fl5_35 (Nat.lt_of_lt_of_le (by decide : 4 < NC) hN) (congrArg Prod.fst s_4) rfl ?_
    refine ag_iconst (q := 16) (v := 1) dX5_passes_15 rfl (by decide) ?_
    refine ag_iadd (q := 17) dX5_passes_16 rfl ?_
    refine ag_putI (q := 20) dX5_passes_17 rfl fl5_35 (Nat.lt_of_lt_of_le (by decide : 4 < NC) hN) (congrArg Prod.fst s_4) rfl ?_
    refine ag_iconst (q := 21) (v := 1) dX5_passes_20 rfl (by decide) ?_
    exact ag_zretK dX5_passes_21 rfl (by decide) rfl
  refine ag_iconst (q := 9) (v := 0) dX5_passes_8 rfl (by decide) ?_
  exact ag_zretK dX5_passes_9 rfl (by decide) rfl
theorem C_X5_passes {N : Nat} (hN : NC ≤ N) (a1 : Int32) (σ : Sg) : ∀ r s', J_X5_passes a1 σ = some (r, s') → AMc yX5_passes mX5_passes [.ref 4, .int a1] N R0 σ (some (.int r), N, R0, s') := fun r s' e => AMc.of (L := [some (.ref 4), some (.int a1)]) (by decide) rfl (fun _ => rfl) (fun _ => Nat.le_of_ble_eq_true rfl) (Nat.le_refl _) (fun K => A_X5_passes K hN a1 σ _ e (Nat.le_refl _))
def J_X5_readRow_b107  (x1 : Int32) (σ : Sg) : Option (Int32 × Sg) :=
  (bd2 (J_X5_passes (59 : Int32) σ) fun r110 s110 => (if r110 = 0 then (some ((0 : Int32), s110)) else (some ((1 : Int32), (up (up (up s110 6 1 x1) 6 2 (((up s110 6 1 x1) 6 2) + (1 : Int32))) 6 0 (((up (up s110 6 1 x1) 6 2 (((up s110 6 1 x1) 6 2) + (1 : Int32))) 6 0) + x1))))))
set_option maxHeartbeats 4000000 in
theorem A_X5_readRow_b107 (K : KT) {N : Nat} (hN : NC ≤ N)  (x1 : Int32) (σ : Sg) : AG K mX5_readRow N (fun a : Int32 × Sg => (some (.int a.1), N, R0, a.2)) (J_X5_readRow_b107   x1 σ) 107 [some (.ref 4), some (.int x1), none, none, none] [] σ := by
  unfold J_X5_readRow_b107
  refine ag_aload_0 (q := 108) dX5_readRow_107 rfl ?_
  refine ag_bipush (q := 110) (v := 59) dX5_readRow_108 rfl (by decide) ?_
  refine ag_callV_mI (q := 113) (av := [.int _]) (rest := []) dX5_readRow_110 rfl lk5_82 (C_X5_passes hN (59 : Int32) _) (by decide) (Nat.le_of_ble_eq_true rfl) (Nat.lt_of_lt_of_le (by decide : 4 < NC) hN) (congrArg Prod.fst s_4) (by decide) (fun _ => rfl) (Nat.le_of_ble_eq_true rfl) rfl (fun r110 s110 e110 => ?_)
  refine ag_if_ne (tgt := 118) (q := 116) dX5_readRow_113 rfl rfl ?_ ?_
  · refine ag_aload_0 (q := 119) dX5_readRow_118 rfl ?_
    refine ag_getR (q := 122) dX5_readRow_119 rfl fl5_18 (Nat.lt_of_lt_of_le (by decide : 4 < NC) hN) (congrArg Prod.fst s_4) rfl r_4_1 ?_
    refine ag_iload_1 (q := 123) dX5_readRow_122 rfl ?_
    refine ag_putI (q := 126) dX5_readRow_123 rfl fl5_79 (Nat.lt_of_lt_of_le (by decide : 6 < NC) hN) (congrArg Prod.fst s_6) rfl ?_
    refine ag_aload_0 (q := 127) dX5_readRow_126 rfl ?_
    refine ag_getR (q := 130) dX5_readRow_127 rfl fl5_18 (Nat.lt_of_lt_of_le (by decide : 4 < NC) hN) (congrArg Prod.fst s_4) rfl r_4_1 ?_
    refine ag_dup (q := 131) dX5_readRow_130 rfl rfl ?_
    refine ag_getI (q := 134) dX5_readRow_131 rfl fl5_70 (Nat.lt_of_lt_of_le (by decide : 6 < NC) hN) (congrArg Prod.fst s_6) rfl ?_
    refine ag_iconst (q := 135) (v := 1) dX5_readRow_134 rfl (by decide) ?_
    refine ag_iadd (q := 136) dX5_readRow_135 rfl ?_
    refine ag_putI (q := 139) dX5_readRow_136 rfl fl5_70 (Nat.lt_of_lt_of_le (by decide : 6 < NC) hN) (congrArg Prod.fst s_6) rfl ?_
    refine ag_aload_0 (q := 140) dX5_readRow_139 rfl ?_
    refine ag_getR (q := 143) dX5_readRow_140 rfl fl5_18 (Nat.lt_of_lt_of_le (by decide : 4 < NC) hN) (congrArg Prod.fst s_4) rfl r_4_1 ?_
    refine ag_dup (q := 144) dX5_readRow_143 rfl rfl ?_
    refine ag_getI (q := 147) dX5_readRow_144 rfl fl5_73 (Nat.lt_of_lt_of_le (by decide : 6 < NC) hN) (congrArg Prod.fst s_6) rfl ?_
    refine ag_iload_1 (q := 148) dX5_readRow_147 rfl ?_
    refine ag_iadd (q := 149) dX5_readRow_148 rfl ?_
    refine ag_putI (q := 152) dX5_readRow_149 rfl fl5_73 (Nat.lt_of_lt_of_le (by decide : 6 < NC) hN) (congrArg Prod.fst s_6) rfl ?_
    refine ag_iconst (q := 153) (v := 1) dX5_readRow_152 rfl (by decide) ?_
    exact ag_zretK dX5_readRow_153 rfl (by decide) rfl
  refine ag_iconst (q := 117) (v := 0) dX5_readRow_116 rfl (by decide) ?_
  exact ag_zretK dX5_readRow_117 rfl (by decide) rfl
def J_X5_readRow_b81  (x1 : Int32) (σ : Sg) : Option (Int32 × Sg) :=
  (if x1 < (1 : Int32) then (some ((0 : Int32), σ)) else (if (σ 6 2) ≤ 0 then (J_X5_readRow_b107   x1 σ) else (if x1 = (σ 6 1) then (J_X5_readRow_b107   x1 σ) else (some ((0 : Int32), σ)))))
set_option maxHeartbeats 4000000 in
theorem A_X5_readRow_b81 (K : KT) {N : Nat} (hN : NC ≤ N)  (x1 : Int32) (σ : Sg) : AG K mX5_readRow N (fun a : Int32 × Sg => (some (.int a.1), N, R0, a.2)) (J_X5_readRow_b81   x1 σ) 81 [some (.ref 4), some (.int x1), none, none, none] [] σ := by
  unfold J_X5_readRow_b81
  refine ag_iload_1 (q := 82) dX5_readRow_81 rfl ?_
  refine ag_iconst (q := 83) (v := 1) dX5_readRow_82 rfl (by decide) ?_
  refine ag_icmp_lt (tgt := 116) (q := 86) dX5_readRow_83 rfl rfl ?_ ?_
  · refine ag_iconst (q := 117) (v := 0) dX5_readRow_116 rfl (by decide) ?_
    exact ag_zretK dX5_readRow_117 rfl (by decide) rfl
  refine ag_aload_0 (q := 87) dX5_readRow_86 rfl ?_
  refine ag_getR (q := 90) dX5_readRow_87 rfl fl5_18 (Nat.lt_of_lt_of_le (by decide : 4 < NC) hN) (congrArg Prod.fst s_4) rfl r_4_1 ?_
  refine ag_getI (q := 93) dX5_readRow_90 rfl fl5_70 (Nat.lt_of_lt_of_le (by decide : 6 < NC) hN) (congrArg Prod.fst s_6) rfl ?_
  refine ag_if_le (tgt := 107) (q := 96) dX5_readRow_93 rfl rfl ?_ ?_
  · exact A_X5_readRow_b107 K hN   x1 σ
  refine ag_iload_1 (q := 97) dX5_readRow_96 rfl ?_
  refine ag_aload_0 (q := 98) dX5_readRow_97 rfl ?_
  refine ag_getR (q := 101) dX5_readRow_98 rfl fl5_18 (Nat.lt_of_lt_of_le (by decide : 4 < NC) hN) (congrArg Prod.fst s_4) rfl r_4_1 ?_
  refine ag_getI (q := 104) dX5_readRow_101 rfl fl5_79 (Nat.lt_of_lt_of_le (by decide : 6 < NC) hN) (congrArg Prod.fst s_6) rfl ?_
  refine ag_icmp_ne (tgt := 116) (q := 107) dX5_readRow_104 rfl rfl ?_ ?_
  · refine ag_iconst (q := 117) (v := 0) dX5_readRow_116 rfl (by decide) ?_
    exact ag_zretK dX5_readRow_117 rfl (by decide) rfl
  exact A_X5_readRow_b107 K hN   x1 σ
def J_X5_readRow_b18  : Nat → Int32 → Int32 → Sg → Option (Int32 × Sg)
  | 0, _, _, _ => none
  | k + 1, x1, x2, σ =>
    (if (6 : Int32) ≤ x2 then (J_X5_readRow_b81   x1 σ) else (bd2 (J_X5_readFigure  σ) fun r25 s25 => (if r25 = (-4 : Int32) then (J_X5_readRow_b81   x1 s25) else (if ((s25 6 0) + x1) < 0 then (J_X5_readRow_b81   x1 s25) else (if ((s25 6 0) + x1) < (36 : Int32) then (if inb ((s25 6 0) + x1) 36 = true then (J_X5_readRow_b18   k (x1 + (1)) (x2 + (1)) (up s25 10 ((s25 6 0) + x1).toNatClampNeg r25)) else none) else (J_X5_readRow_b81   x1 s25))))))
set_option maxHeartbeats 4000000 in
theorem A_X5_readRow_b18 (K : KT) {N : Nat} (hN : NC ≤ N)  : ∀ (k : Nat) (x1 : Int32) (x2 : Int32) (σ : Sg), AG K mX5_readRow N (fun a : Int32 × Sg => (some (.int a.1), N, R0, a.2)) (J_X5_readRow_b18   k x1 x2 σ) 18 [some (.ref 4), some (.int x1), some (.int x2), none, none] [] σ := by
  intro k
  induction k with
  | zero => intro x1 x2 σ; exact ag_none
  | succ k ih =>
    intro x1 x2 σ
    rw [J_X5_readRow_b18]
    refine ag_iload_2 (q := 19) dX5_readRow_18 rfl ?_
    refine ag_bipush (q := 21) (v := 6) dX5_readRow_19 rfl (by decide) ?_
    refine ag_icmp_ge (tgt := 81) (q := 24) dX5_readRow_21 rfl rfl ?_ ?_
    · refine ag_kill_2 ?_
      exact A_X5_readRow_b81 K hN   x1 σ
    refine ag_aload_0 (q := 25) dX5_readRow_24 rfl ?_
    refine ag_callV_mI (q := 28) (av := []) (rest := []) dX5_readRow_25 rfl lk5_67 (C_X5_readFigure hN  _) (by decide) (Nat.le_of_ble_eq_true rfl) (Nat.lt_of_lt_of_le (by decide : 4 < NC) hN) (congrArg Prod.fst s_4) (by decide) (fun _ => rfl) (Nat.le_of_ble_eq_true rfl) rfl (fun r25 s25 e25 => ?_)
    refine ag_istore_3 (q := 29) dX5_readRow_28 rfl (Nat.le_of_ble_eq_true rfl) rfl ?_
    refine ag_aload_0 (q := 30) dX5_readRow_29 rfl ?_
    refine ag_getR (q := 33) dX5_readRow_30 rfl fl5_18 (Nat.lt_of_lt_of_le (by decide : 4 < NC) hN) (congrArg Prod.fst s_4) rfl r_4_1 ?_
    refine ag_getI (q := 36) dX5_readRow_33 rfl fl5_73 (Nat.lt_of_lt_of_le (by decide : 6 < NC) hN) (congrArg Prod.fst s_6) rfl ?_
    refine ag_iload_1 (q := 37) dX5_readRow_36 rfl ?_
    refine ag_iadd (q := 38) dX5_readRow_37 rfl ?_
    refine ag_istore_4 (q := 40) dX5_readRow_38 rfl (Nat.le_of_ble_eq_true rfl) rfl ?_
    refine ag_iload_3 (q := 41) dX5_readRow_40 rfl ?_
    refine ag_bipush (q := 43) (v := -4) dX5_readRow_41 rfl (by decide) ?_
    refine ag_icmp_eq (tgt := 81) (q := 46) dX5_readRow_43 rfl rfl ?_ ?_
    · refine ag_kill_2 ?_
      refine ag_kill_3 ?_
      refine ag_kill_4 ?_
      exact A_X5_readRow_b81 K hN   x1 s25
    refine ag_iload_4 (q := 48) dX5_readRow_46 rfl ?_
    refine ag_if_lt (tgt := 81) (q := 51) dX5_readRow_48 rfl rfl ?_ ?_
    · refine ag_kill_2 ?_
      refine ag_kill_3 ?_
      refine ag_kill_4 ?_
      exact A_X5_readRow_b81 K hN   x1 s25
    refine ag_iload_4 (q := 53) dX5_readRow_51 rfl ?_
    refine ag_bipush (q := 55) (v := 36) dX5_readRow_53 rfl (by decide) ?_
    refine ag_icmp_lt (tgt := 61) (q := 58) dX5_readRow_55 rfl rfl ?_ ?_
    · refine ag_aload_0 (q := 62) dX5_readRow_61 rfl ?_
      refine ag_getR (q := 65) dX5_readRow_62 rfl fl5_27 (Nat.lt_of_lt_of_le (by decide : 4 < NC) hN) (congrArg Prod.fst s_4) rfl r_4_2 ?_
      refine ag_getR (q := 68) dX5_readRow_65 rfl fl5_76 (Nat.lt_of_lt_of_le (by decide : 9 < NC) hN) (congrArg Prod.fst s_9) rfl r_9_1 ?_
      refine ag_iload_4 (q := 70) dX5_readRow_68 rfl ?_
      refine ag_iload_3 (q := 71) dX5_readRow_70 rfl ?_
      refine ag_iast (q := 72) dX5_readRow_71 rfl (Nat.lt_of_lt_of_le (by decide : 10 < NC) hN) s_10 ?_
      refine ag_iinc_1 (q := 75) (d := (1)) dX5_readRow_72 rfl (Nat.le_of_ble_eq_true rfl) rfl (by decide) ?_
      refine ag_iinc_2 (q := 78) (d := (1)) dX5_readRow_75 rfl (Nat.le_of_ble_eq_true rfl) rfl (by decide) ?_
      refine ag_goto (q := 18) dX5_readRow_78 rfl ?_
      refine ag_kill_3 ?_
      refine ag_kill_4 ?_
      exact ih (x1 + (1)) (x2 + (1)) (up s25 10 ((s25 6 0) + x1).toNatClampNeg r25)
    refine ag_goto (q := 81) dX5_readRow_58 rfl ?_
    refine ag_kill_2 ?_
    refine ag_kill_3 ?_
    refine ag_kill_4 ?_
    exact A_X5_readRow_b81 K hN   x1 s25
def J_X5_readRow  (σ : Sg) : Option (Int32 × Sg) :=
  (if (σ 6 2) < (6 : Int32) then (J_X5_readRow_b18   FU (0 : Int32) (0 : Int32) σ) else (some ((0 : Int32), σ)))
set_option maxHeartbeats 4000000 in
theorem A_X5_readRow (K : KT) {N : Nat} (hN : NC ≤ N)  (σ : Sg) : AG K mX5_readRow N (fun a : Int32 × Sg => (some (.int a.1), N, R0, a.2)) (J_X5_readRow  σ) 0 [some (.ref 4), none, none, none, none] [] σ := by
  unfold J_X5_readRow
  refine ag_aload_0 (q := 1) dX5_readRow_0 rfl ?_
  refine ag_getR (q := 4) dX5_readRow_1 rfl fl5_18 (Nat.lt_of_lt_of_le (by decide : 4 < NC) hN) (congrArg Prod.fst s_4) rfl r_4_1 ?_
  refine ag_getI (q := 7) dX5_readRow_4 rfl fl5_70 (Nat.lt_of_lt_of_le (by decide : 6 < NC) hN) (congrArg Prod.fst s_6) rfl ?_
  refine ag_bipush (q := 9) (v := 6) dX5_readRow_7 rfl (by decide) ?_
  refine ag_icmp_lt (tgt := 14) (q := 12) dX5_readRow_9 rfl rfl ?_ ?_
  · refine ag_iconst (q := 15) (v := 0) dX5_readRow_14 rfl (by decide) ?_
    refine ag_istore_1 (q := 16) dX5_readRow_15 rfl (Nat.le_of_ble_eq_true rfl) rfl ?_
    refine ag_iconst (q := 17) (v := 0) dX5_readRow_16 rfl (by decide) ?_
    refine ag_istore_2 (q := 18) dX5_readRow_17 rfl (Nat.le_of_ble_eq_true rfl) rfl ?_
    exact A_X5_readRow_b18 K hN   FU (0 : Int32) (0 : Int32) σ
  refine ag_iconst (q := 13) (v := 0) dX5_readRow_12 rfl (by decide) ?_
  exact ag_zretK dX5_readRow_13 rfl (by decide) rfl
theorem C_X5_readRow {N : Nat} (hN : NC ≤ N)  (σ : Sg) : ∀ r s', J_X5_readRow  σ = some (r, s') → AMc yX5_readRow mX5_readRow [.ref 4] N R0 σ (some (.int r), N, R0, s') := fun r s' e => AMc.of (L := [some (.ref 4), none, none, none, none]) (by decide) rfl (fun _ => rfl) (fun _ => Nat.le_of_ble_eq_true rfl) (Nat.le_refl _) (fun K => A_X5_readRow K hN  σ _ e (Nat.le_refl _))
def J_X5_readNumber  (σ : Sg) : Option (Int32 × Sg) :=
  (bd2 (J_X5_readFigure  σ) fun r1 s1 => (if r1 = (-4 : Int32) then (some (r1, s1)) else (bd2 (J_X5_readFigure  s1) fun r17 s17 => (if r17 = (-4 : Int32) then (some (r1, s17)) else (some ((((10 : Int32) * r1) + r17), s17))))))
set_option maxHeartbeats 4000000 in
theorem A_X5_readNumber (K : KT) {N : Nat} (hN : NC ≤ N)  (σ : Sg) : AG K mX5_readNumber N (fun a : Int32 × Sg => (some (.int a.1), N, R0, a.2)) (J_X5_readNumber  σ) 0 [some (.ref 4), none, none] [] σ := by
  unfold J_X5_readNumber
  refine ag_aload_0 (q := 1) dX5_readNumber_0 rfl ?_
  refine ag_callV_mI (q := 4) (av := []) (rest := []) dX5_readNumber_1 rfl lk5_67 (C_X5_readFigure hN  _) (by decide) (Nat.le_of_ble_eq_true rfl) (Nat.lt_of_lt_of_le (by decide : 4 < NC) hN) (congrArg Prod.fst s_4) (by decide) (fun _ => rfl) (Nat.le_of_ble_eq_true rfl) rfl (fun r1 s1 e1 => ?_)
  refine ag_istore_1 (q := 5) dX5_readNumber_4 rfl (Nat.le_of_ble_eq_true rfl) rfl ?_
  refine ag_iload_1 (q := 6) dX5_readNumber_5 rfl ?_
  refine ag_bipush (q := 8) (v := -4) dX5_readNumber_6 rfl (by decide) ?_
  refine ag_icmp_ne (tgt := 16) (q := 11) dX5_readNumber_8 rfl rfl ?_ ?_
  · refine ag_aload_0 (q := 17) dX5_readNumber_16 rfl ?_
    refine ag_callV_mI (q := 20) (av := []) (rest := []) dX5_readNumber_17 rfl lk5_67 (C_X5_readFigure hN  _) (by decide) (Nat.le_of_ble_eq_true rfl) (Nat.lt_of_lt_of_le (by decide : 4 < NC) hN) (congrArg Prod.fst s_4) (by decide) (fun _ => rfl) (Nat.le_of_ble_eq_true rfl) rfl (fun r17 s17 e17 => ?_)
    refine ag_istore_2 (q := 21) dX5_readNumber_20 rfl (Nat.le_of_ble_eq_true rfl) rfl ?_
    refine ag_iload_2 (q := 22) dX5_readNumber_21 rfl ?_
    refine ag_bipush (q := 24) (v := -4) dX5_readNumber_22 rfl (by decide) ?_
    refine ag_icmp_ne (tgt := 31) (q := 27) dX5_readNumber_24 rfl rfl ?_ ?_
    · refine ag_bipush (q := 33) (v := 10) dX5_readNumber_31 rfl (by decide) ?_
      refine ag_iload_1 (q := 34) dX5_readNumber_33 rfl ?_
      refine ag_imul (q := 35) dX5_readNumber_34 rfl ?_
      refine ag_iload_2 (q := 36) dX5_readNumber_35 rfl ?_
      refine ag_iadd (q := 37) dX5_readNumber_36 rfl ?_
      exact ag_iret dX5_readNumber_37 rfl rfl
    refine ag_iload_1 (q := 28) dX5_readNumber_27 rfl ?_
    refine ag_goto (q := 37) dX5_readNumber_28 rfl ?_
    exact ag_iret dX5_readNumber_37 rfl rfl
  refine ag_bipush (q := 13) (v := -4) dX5_readNumber_11 rfl (by decide) ?_
  refine ag_goto (q := 20) dX5_readNumber_13 rfl ?_
  refine ag_istore_2 (q := 21) dX5_readNumber_20 rfl (Nat.le_of_ble_eq_true rfl) rfl ?_
  refine ag_iload_2 (q := 22) dX5_readNumber_21 rfl ?_
  refine ag_bipush (q := 24) (v := -4) dX5_readNumber_22 rfl (by decide) ?_
  refine ag_icmp_ne_f (tgt := 31) (q := 27) dX5_readNumber_24 rfl rfl (by decide) ?_
  refine ag_iload_1 (q := 28) dX5_readNumber_27 rfl ?_
  refine ag_goto (q := 37) dX5_readNumber_28 rfl ?_
  exact ag_iret dX5_readNumber_37 rfl rfl
theorem C_X5_readNumber {N : Nat} (hN : NC ≤ N)  (σ : Sg) : ∀ r s', J_X5_readNumber  σ = some (r, s') → AMc yX5_readNumber mX5_readNumber [.ref 4] N R0 σ (some (.int r), N, R0, s') := fun r s' e => AMc.of (L := [some (.ref 4), none, none]) (by decide) rfl (fun _ => rfl) (fun _ => Nat.le_of_ble_eq_true rfl) (Nat.le_refl _) (fun K => A_X5_readNumber K hN  σ _ e (Nat.le_refl _))
def J_X7_isVillage (a0 : Int32) (σ : Sg) : Option Int32 :=
  (if a0 = 0 then (some (1 : Int32)) else (if a0 = (1 : Int32) then (some (1 : Int32)) else (some (0 : Int32))))
set_option maxHeartbeats 4000000 in
theorem A_X7_isVillage (K : KT) {N : Nat} (hN : NC ≤ N) (a0 : Int32) (σ : Sg) : AG K mX7_isVillage N (fun a : Int32 => (some (.int a), N, R0, σ)) (J_X7_isVillage a0 σ) 0 [some (.int a0)] [] σ := by
  unfold J_X7_isVillage
  refine ag_iload_0 (q := 1) dX7_isVillage_0 rfl ?_
  refine ag_if_eq (tgt := 9) (q := 4) dX7_isVillage_1 rfl rfl ?_ ?_
  · refine ag_iconst (q := 10) (v := 1) dX7_isVillage_9 rfl (by decide) ?_
    refine ag_goto (q := 14) dX7_isVillage_10 rfl ?_
    exact ag_zretK dX7_isVillage_14 rfl (by decide) rfl
  refine ag_iload_0 (q := 5) dX7_isVillage_4 rfl ?_
  refine ag_iconst (q := 6) (v := 1) dX7_isVillage_5 rfl (by decide) ?_
  refine ag_icmp_ne (tgt := 13) (q := 9) dX7_isVillage_6 rfl rfl ?_ ?_
  · refine ag_iconst (q := 14) (v := 0) dX7_isVillage_13 rfl (by decide) ?_
    exact ag_zretK dX7_isVillage_14 rfl (by decide) rfl
  refine ag_iconst (q := 10) (v := 1) dX7_isVillage_9 rfl (by decide) ?_
  refine ag_goto (q := 14) dX7_isVillage_10 rfl ?_
  exact ag_zretK dX7_isVillage_14 rfl (by decide) rfl
theorem C_X7_isVillage {N : Nat} (hN : NC ≤ N) (a0 : Int32) (σ : Sg) : ∀ r, J_X7_isVillage a0 σ = some r → AMc yX7_isVillage mX7_isVillage [.int a0] N R0 σ (some (.int r), N, R0, σ) := fun r e => AMc.of (L := [some (.int a0)]) (by decide) rfl (fun _ => rfl) (fun _ => Nat.le_of_ble_eq_true rfl) (Nat.le_refl _) (fun K => A_X7_isVillage K hN a0 σ _ e (Nat.le_refl _))
def J_X5_readBeast_b35  (x1 : Int32) (x3 : Int32) (w0 : Int32) (σ : Sg) : Option (Int32 × Sg) :=
  (bd2 (J_X5_readNumber  σ) fun r37 s37 => (if w0 = 0 then (some ((0 : Int32), s37)) else (bd2 (J_X5_passes (59 : Int32) s37) fun r49 s49 => (if r49 = 0 then (some ((0 : Int32), s49)) else (if x1 < 0 then (some ((0 : Int32), s49)) else (if (3 : Int32) < x1 then (some ((0 : Int32), s49)) else (bd1 (J_X7_isVillage x3 s49) fun r65 => (if r65 = 0 then (some ((0 : Int32), s49)) else (if (s49 6 3) < 0 then (some ((0 : Int32), s49)) else (if (8 : Int32) ≤ (s49 6 3) then (some ((0 : Int32), s49)) else (bd1 (J_X2_grassOn 9 r37 s49) fun r100 => (if r100 = (9 : Int32) then (some ((0 : Int32), s49)) else (bd1 (J_X2_occupant 9 r37 s49) fun r114 => (if r114 = (-4 : Int32) then (if inb (s49 6 3) 8 = true then (if inb (s49 6 3) 8 = true then (bd2 (J_X2_put 9 (s49 6 3) r37 x1 (up (up (up s49 6 3 ((s49 6 3) + (1 : Int32))) 7 (s49 6 3).toNatClampNeg x3) 13 (s49 6 3).toNatClampNeg (0 : Int32))) fun r168 s168 => (some ((1 : Int32), s168))) else none) else none) else (some ((0 : Int32), s49))))))))))))))))
set_option maxHeartbeats 4000000 in
theorem A_X5_readBeast_b35 (K : KT) {N : Nat} (hN : NC ≤ N)  (x1 : Int32) (x3 : Int32) (w0 : Int32) (σ : Sg) : AG K mX5_readBeast N (fun a : Int32 × Sg => (some (.int a.1), N, R0, a.2)) (J_X5_readBeast_b35   x1 x3 w0 σ) 35 [some (.ref 4), some (.int x1), none, some (.int x3), none, none] [.int w0] σ := by
  unfold J_X5_readBeast_b35
  refine ag_istore_2 (q := 36) dX5_readBeast_35 rfl (Nat.le_of_ble_eq_true rfl) rfl ?_
  refine ag_aload_0 (q := 37) dX5_readBeast_36 rfl ?_
  refine ag_callV_mI (q := 40) (av := []) (rest := []) dX5_readBeast_37 rfl lk5_86 (C_X5_readNumber hN  _) (by decide) (Nat.le_of_ble_eq_true rfl) (Nat.lt_of_lt_of_le (by decide : 4 < NC) hN) (congrArg Prod.fst s_4) (by decide) (fun _ => rfl) (Nat.le_of_ble_eq_true rfl) rfl (fun r37 s37 e37 => ?_)
  refine ag_istore_4 (q := 42) dX5_readBeast_40 rfl (Nat.le_of_ble_eq_true rfl) rfl ?_
  refine ag_iload_2 (q := 43) dX5_readBeast_42 rfl ?_
  refine ag_if_eq (tgt := 71) (q := 46) dX5_readBeast_43 rfl rfl ?_ ?_
  · refine ag_iconst (q := 72) (v := 0) dX5_readBeast_71 rfl (by decide) ?_
    exact ag_zretK dX5_readBeast_72 rfl (by decide) rfl
  refine ag_aload_0 (q := 47) dX5_readBeast_46 rfl ?_
  refine ag_bipush (q := 49) (v := 59) dX5_readBeast_47 rfl (by decide) ?_
  refine ag_callV_mI (q := 52) (av := [.int _]) (rest := []) dX5_readBeast_49 rfl lk5_82 (C_X5_passes hN (59 : Int32) _) (by decide) (Nat.le_of_ble_eq_true rfl) (Nat.lt_of_lt_of_le (by decide : 4 < NC) hN) (congrArg Prod.fst s_4) (by decide) (fun _ => rfl) (Nat.le_of_ble_eq_true rfl) rfl (fun r49 s49 e49 => ?_)
  refine ag_if_eq (tgt := 71) (q := 55) dX5_readBeast_52 rfl rfl ?_ ?_
  · refine ag_iconst (q := 72) (v := 0) dX5_readBeast_71 rfl (by decide) ?_
    exact ag_zretK dX5_readBeast_72 rfl (by decide) rfl
  refine ag_iload_1 (q := 56) dX5_readBeast_55 rfl ?_
  refine ag_if_lt (tgt := 71) (q := 59) dX5_readBeast_56 rfl rfl ?_ ?_
  · refine ag_iconst (q := 72) (v := 0) dX5_readBeast_71 rfl (by decide) ?_
    exact ag_zretK dX5_readBeast_72 rfl (by decide) rfl
  refine ag_iload_1 (q := 60) dX5_readBeast_59 rfl ?_
  refine ag_iconst (q := 61) (v := 3) dX5_readBeast_60 rfl (by decide) ?_
  refine ag_icmp_gt (tgt := 71) (q := 64) dX5_readBeast_61 rfl rfl ?_ ?_
  · refine ag_iconst (q := 72) (v := 0) dX5_readBeast_71 rfl (by decide) ?_
    exact ag_zretK dX5_readBeast_72 rfl (by decide) rfl
  refine ag_iload_3 (q := 65) dX5_readBeast_64 rfl ?_
  refine ag_callSN_pI (q := 68) (av := [.int _]) (rest := []) dX5_readBeast_65 rfl lk5_89 (C_X7_isVillage hN x3 _) (by decide) (Nat.le_of_ble_eq_true rfl) (fun _ => rfl) (Nat.le_of_ble_eq_true rfl) rfl (fun r65 e65 => ?_)
  refine ag_if_ne (tgt := 73) (q := 71) dX5_readBeast_68 rfl rfl ?_ ?_
  · refine ag_aload_0 (q := 74) dX5_readBeast_73 rfl ?_
    refine ag_getR (q := 77) dX5_readBeast_74 rfl fl5_18 (Nat.lt_of_lt_of_le (by decide : 4 < NC) hN) (congrArg Prod.fst s_4) rfl r_4_1 ?_
    refine ag_getI (q := 80) dX5_readBeast_77 rfl fl5_92 (Nat.lt_of_lt_of_le (by decide : 6 < NC) hN) (congrArg Prod.fst s_6) rfl ?_
    refine ag_istore_5 (q := 82) dX5_readBeast_80 rfl (Nat.le_of_ble_eq_true rfl) rfl ?_
    refine ag_iload_5 (q := 84) dX5_readBeast_82 rfl ?_
    refine ag_if_lt (tgt := 122) (q := 87) dX5_readBeast_84 rfl rfl ?_ ?_
    · refine ag_iconst (q := 123) (v := 0) dX5_readBeast_122 rfl (by decide) ?_
      exact ag_zretK dX5_readBeast_123 rfl (by decide) rfl
    refine ag_iload_5 (q := 89) dX5_readBeast_87 rfl ?_
    refine ag_bipush (q := 91) (v := 8) dX5_readBeast_89 rfl (by decide) ?_
    refine ag_icmp_ge (tgt := 122) (q := 94) dX5_readBeast_91 rfl rfl ?_ ?_
    · refine ag_iconst (q := 123) (v := 0) dX5_readBeast_122 rfl (by decide) ?_
      exact ag_zretK dX5_readBeast_123 rfl (by decide) rfl
    refine ag_aload_0 (q := 95) dX5_readBeast_94 rfl ?_
    refine ag_getR (q := 98) dX5_readBeast_95 rfl fl5_27 (Nat.lt_of_lt_of_le (by decide : 4 < NC) hN) (congrArg Prod.fst s_4) rfl r_4_2 ?_
    refine ag_iload_4 (q := 100) dX5_readBeast_98 rfl ?_
    refine ag_callV_pI (q := 103) (av := [.int _]) (rest := []) dX5_readBeast_100 rfl lk5_95 (C_X2_grassOn hN 9 (by decide) r37 _) (by decide) (Nat.le_of_ble_eq_true rfl) (Nat.lt_of_lt_of_le (by decide : 9 < NC) hN) (congrArg Prod.fst s_9) (by decide) (fun _ => rfl) (Nat.le_of_ble_eq_true rfl) rfl (fun r100 e100 => ?_)
    refine ag_bipush (q := 105) (v := 9) dX5_readBeast_103 rfl (by decide) ?_
    refine ag_icmp_eq (tgt := 122) (q := 108) dX5_readBeast_105 rfl rfl ?_ ?_
    · refine ag_iconst (q := 123) (v := 0) dX5_readBeast_122 rfl (by decide) ?_
      exact ag_zretK dX5_readBeast_123 rfl (by decide) rfl
    refine ag_aload_0 (q := 109) dX5_readBeast_108 rfl ?_
    refine ag_getR (q := 112) dX5_readBeast_109 rfl fl5_27 (Nat.lt_of_lt_of_le (by decide : 4 < NC) hN) (congrArg Prod.fst s_4) rfl r_4_2 ?_
    refine ag_iload_4 (q := 114) dX5_readBeast_112 rfl ?_
    refine ag_callV_pI (q := 117) (av := [.int _]) (rest := []) dX5_readBeast_114 rfl lk5_99 (C_X2_occupant hN 9 (by decide) r37 _) (by decide) (Nat.le_of_ble_eq_true rfl) (Nat.lt_of_lt_of_le (by decide : 9 < NC) hN) (congrArg Prod.fst s_9) (by decide) (fun _ => rfl) (Nat.le_of_ble_eq_true rfl) rfl (fun r114 e114 => ?_)
    refine ag_bipush (q := 119) (v := -4) dX5_readBeast_117 rfl (by decide) ?_
    refine ag_icmp_eq (tgt := 124) (q := 122) dX5_readBeast_119 rfl rfl ?_ ?_
    · refine ag_aload_0 (q := 125) dX5_readBeast_124 rfl ?_
      refine ag_getR (q := 128) dX5_readBeast_125 rfl fl5_18 (Nat.lt_of_lt_of_le (by decide : 4 < NC) hN) (congrArg Prod.fst s_4) rfl r_4_1 ?_
      refine ag_dup (q := 129) dX5_readBeast_128 rfl rfl ?_
      refine ag_getI (q := 132) dX5_readBeast_129 rfl fl5_92 (Nat.lt_of_lt_of_le (by decide : 6 < NC) hN) (congrArg Prod.fst s_6) rfl ?_
      refine ag_iconst (q := 133) (v := 1) dX5_readBeast_132 rfl (by decide) ?_
      refine ag_iadd (q := 134) dX5_readBeast_133 rfl ?_
      refine ag_putI (q := 137) dX5_readBeast_134 rfl fl5_92 (Nat.lt_of_lt_of_le (by decide : 6 < NC) hN) (congrArg Prod.fst s_6) rfl ?_
      refine ag_aload_0 (q := 138) dX5_readBeast_137 rfl ?_
      refine ag_getR (q := 141) dX5_readBeast_138 rfl fl5_18 (Nat.lt_of_lt_of_le (by decide : 4 < NC) hN) (congrArg Prod.fst s_4) rfl r_4_1 ?_
      refine ag_getR (q := 144) dX5_readBeast_141 rfl fl5_102 (Nat.lt_of_lt_of_le (by decide : 6 < NC) hN) (congrArg Prod.fst s_6) rfl r_6_7 ?_
      refine ag_iload_5 (q := 146) dX5_readBeast_144 rfl ?_
      refine ag_iload_3 (q := 147) dX5_readBeast_146 rfl ?_
      refine ag_iast (q := 148) dX5_readBeast_147 rfl (Nat.lt_of_lt_of_le (by decide : 7 < NC) hN) s_7 ?_
      refine ag_aload_0 (q := 149) dX5_readBeast_148 rfl ?_
      refine ag_getR (q := 152) dX5_readBeast_149 rfl fl5_27 (Nat.lt_of_lt_of_le (by decide : 4 < NC) hN) (congrArg Prod.fst s_4) rfl r_4_2 ?_
      refine ag_getR (q := 155) dX5_readBeast_152 rfl fl5_105 (Nat.lt_of_lt_of_le (by decide : 9 < NC) hN) (congrArg Prod.fst s_9) rfl r_9_4 ?_
      refine ag_iload_5 (q := 157) dX5_readBeast_155 rfl ?_
      refine ag_iconst (q := 158) (v := 0) dX5_readBeast_157 rfl (by decide) ?_
      refine ag_iast (q := 159) dX5_readBeast_158 rfl (Nat.lt_of_lt_of_le (by decide : 13 < NC) hN) s_13 ?_
      refine ag_aload_0 (q := 160) dX5_readBeast_159 rfl ?_
      refine ag_getR (q := 163) dX5_readBeast_160 rfl fl5_27 (Nat.lt_of_lt_of_le (by decide : 4 < NC) hN) (congrArg Prod.fst s_4) rfl r_4_2 ?_
      refine ag_iload_5 (q := 165) dX5_readBeast_163 rfl ?_
      refine ag_iload_4 (q := 167) dX5_readBeast_165 rfl ?_
      refine ag_iload_1 (q := 168) dX5_readBeast_167 rfl ?_
      refine ag_callV_mU (q := 171) (av := [.int _, .int _, .int _]) (rest := []) dX5_readBeast_168 rfl lk5_108 (C_X2_put hN 9 (by decide) (s49 6 3) r37 x1 _) (by decide) (Nat.le_of_ble_eq_true rfl) (Nat.lt_of_lt_of_le (by decide : 9 < NC) hN) (congrArg Prod.fst s_9) (by decide) (fun _ => rfl) (Nat.le_of_ble_eq_true rfl) rfl (fun r168 s168 e168 => ?_)
      refine ag_iconst (q := 172) (v := 1) dX5_readBeast_171 rfl (by decide) ?_
      exact ag_zretK dX5_readBeast_172 rfl (by decide) rfl
    refine ag_iconst (q := 123) (v := 0) dX5_readBeast_122 rfl (by decide) ?_
    exact ag_zretK dX5_readBeast_123 rfl (by decide) rfl
  refine ag_iconst (q := 72) (v := 0) dX5_readBeast_71 rfl (by decide) ?_
  exact ag_zretK dX5_readBeast_72 rfl (by decide) rfl
def J_X5_readBeast  (σ : Sg) : Option (Int32 × Sg) :=
  (bd2 (J_X5_readNumber  σ) fun r1 s1 => (bd2 (J_X5_passes (44 : Int32) s1) fun r8 s8 => (bd2 (J_X5_readNumber  s8) fun r13 s13 => (if r8 = 0 then (J_X5_readBeast_b35   r1 r13 (0 : Int32) s13) else (bd2 (J_X5_passes (44 : Int32) s13) fun r24 s24 => (if r24 = 0 then (J_X5_readBeast_b35   r1 r13 (0 : Int32) s24) else (J_X5_readBeast_b35   r1 r13 (1 : Int32) s24)))))))
set_option maxHeartbeats 4000000 in
theorem A_X5_readBeast (K : KT) {N : Nat} (hN : NC ≤ N)  (σ : Sg) : AG K mX5_readBeast N (fun a : Int32 × Sg => (some (.int a.1), N, R0, a.2)) (J_X5_readBeast  σ) 0 [some (.ref 4), none, none, none, none, none] [] σ := by
  unfold J_X5_readBeast
  refine ag_aload_0 (q := 1) dX5_readBeast_0 rfl ?_
  refine ag_callV_mI (q := 4) (av := []) (rest := []) dX5_readBeast_1 rfl lk5_86 (C_X5_readNumber hN  _) (by decide) (Nat.le_of_ble_eq_true rfl) (Nat.lt_of_lt_of_le (by decide : 4 < NC) hN) (congrArg Prod.fst s_4) (by decide) (fun _ => rfl) (Nat.le_of_ble_eq_true rfl) rfl (fun r1 s1 e1 => ?_)
  refine ag_istore_1 (q := 5) dX5_readBeast_4 rfl (Nat.le_of_ble_eq_true rfl) rfl ?_
  refine ag_aload_0 (q := 6) dX5_readBeast_5 rfl ?_
  refine ag_bipush (q := 8) (v := 44) dX5_readBeast_6 rfl (by decide) ?_
  refine ag_callV_mI (q := 11) (av := [.int _]) (rest := []) dX5_readBeast_8 rfl lk5_82 (C_X5_passes hN (44 : Int32) _) (by decide) (Nat.le_of_ble_eq_true rfl) (Nat.lt_of_lt_of_le (by decide : 4 < NC) hN) (congrArg Prod.fst s_4) (by decide) (fun _ => rfl) (Nat.le_of_ble_eq_true rfl) rfl (fun r8 s8 e8 => ?_)
  refine ag_istore_2 (q := 12) dX5_readBeast_11 rfl (Nat.le_of_ble_eq_true rfl) rfl ?_
  refine ag_aload_0 (q := 13) dX5_readBeast_12 rfl ?_
  refine ag_callV_mI (q := 16) (av := []) (rest := []) dX5_readBeast_13 rfl lk5_86 (C_X5_readNumber hN  _) (by decide) (Nat.le_of_ble_eq_true rfl) (Nat.lt_of_lt_of_le (by decide : 4 < NC) hN) (congrArg Prod.fst s_4) (by decide) (fun _ => rfl) (Nat.le_of_ble_eq_true rfl) rfl (fun r13 s13 e13 => ?_)
  refine ag_istore_3 (q := 17) dX5_readBeast_16 rfl (Nat.le_of_ble_eq_true rfl) rfl ?_
  refine ag_iload_2 (q := 18) dX5_readBeast_17 rfl ?_
  refine ag_if_eq (tgt := 34) (q := 21) dX5_readBeast_18 rfl rfl ?_ ?_
  · refine ag_iconst (q := 35) (v := 0) dX5_readBeast_34 rfl (by decide) ?_
    refine ag_kill_2 ?_
    exact A_X5_readBeast_b35 K hN   r1 r13 (0 : Int32) s13
  refine ag_aload_0 (q := 22) dX5_readBeast_21 rfl ?_
  refine ag_bipush (q := 24) (v := 44) dX5_readBeast_22 rfl (by decide) ?_
  refine ag_callV_mI (q := 27) (av := [.int _]) (rest := []) dX5_readBeast_24 rfl lk5_82 (C_X5_passes hN (44 : Int32) _) (by decide) (Nat.le_of_ble_eq_true rfl) (Nat.lt_of_lt_of_le (by decide : 4 < NC) hN) (congrArg Prod.fst s_4) (by decide) (fun _ => rfl) (Nat.le_of_ble_eq_true rfl) rfl (fun r24 s24 e24 => ?_)
  refine ag_if_eq (tgt := 34) (q := 30) dX5_readBeast_27 rfl rfl ?_ ?_
  · refine ag_iconst (q := 35) (v := 0) dX5_readBeast_34 rfl (by decide) ?_
    refine ag_kill_2 ?_
    exact A_X5_readBeast_b35 K hN   r1 r13 (0 : Int32) s24
  refine ag_iconst (q := 31) (v := 1) dX5_readBeast_30 rfl (by decide) ?_
  refine ag_goto (q := 35) dX5_readBeast_31 rfl ?_
  refine ag_kill_2 ?_
  exact A_X5_readBeast_b35 K hN   r1 r13 (1 : Int32) s24
theorem C_X5_readBeast {N : Nat} (hN : NC ≤ N)  (σ : Sg) : ∀ r s', J_X5_readBeast  σ = some (r, s') → AMc yX5_readBeast mX5_readBeast [.ref 4] N R0 σ (some (.int r), N, R0, s') := fun r s' e => AMc.of (L := [some (.ref 4), none, none, none, none, none]) (by decide) rfl (fun _ => rfl) (fun _ => Nat.le_of_ble_eq_true rfl) (Nat.le_refl _) (fun K => A_X5_readBeast K hN  σ _ e (Nat.le_refl _))
def J_X5_readWell  (σ : Sg) : Option (Int32 × Sg) :=
  (bd2 (J_X5_readNumber  σ) fun r1 s1 => (bd2 (J_X5_passes (59 : Int32) s1) fun r8 s8 => (if r8 = 0 then (some ((0 : Int32), s8)) else (bd1 (J_X2_grassOn 9 r1 s8) fun r19 => (if r19 = (9 : Int32) then (some ((0 : Int32), s8)) else (some ((1 : Int32), (up s8 6 4 r1))))))))
set_option maxHeartbeats 4000000 in
theorem A_X5_readWell (K : KT) {N : Nat} (hN : NC ≤ N)  (σ : Sg) : AG K mX5_readWell N (fun a : Int32 × Sg => (some (.int a.1), N, R0, a.2)) (J_X5_readWell  σ) 0 [some (.ref 4), none] [] σ := by
  unfold J_X5_readWell
  refine ag_aload_0 (q := 1) dX5_readWell_0 rfl ?_
  refine ag_callV_mI (q := 4) (av := []) (rest := []) dX5_readWell_1 rfl lk5_86 (C_X5_readNumber hN  _) (by decide) (Nat.le_of_ble_eq_true rfl) (Nat.lt_of_lt_of_le (by decide : 4 < NC) hN) (congrArg Prod.fst s_4) (by decide) (fun _ => rfl) (Nat.le_of_ble_eq_true rfl) rfl (fun r1 s1 e1 => ?_)
  refine ag_istore_1 (q := 5) dX5_readWell_4 rfl (Nat.le_of_ble_eq_true rfl) rfl ?_
  refine ag_aload_0 (q := 6) dX5_readWell_5 rfl ?_
  refine ag_bipush (q := 8) (v := 59) dX5_readWell_6 rfl (by decide) ?_
  refine ag_callV_mI (q := 11) (av := [.int _]) (rest := []) dX5_readWell_8 rfl lk5_82 (C_X5_passes hN (59 : Int32) _) (by decide) (Nat.le_of_ble_eq_true rfl) (Nat.lt_of_lt_of_le (by decide : 4 < NC) hN) (congrArg Prod.fst s_4) (by decide) (fun _ => rfl) (Nat.le_of_ble_eq_true rfl) rfl (fun r8 s8 e8 => ?_)
  refine ag_if_eq (tgt := 27) (q := 14) dX5_readWell_11 rfl rfl ?_ ?_
  · refine ag_iconst (q := 28) (v := 0) dX5_readWell_27 rfl (by decide) ?_
    exact ag_zretK dX5_readWell_28 rfl (by decide) rfl
  refine ag_aload_0 (q := 15) dX5_readWell_14 rfl ?_
  refine ag_getR (q := 18) dX5_readWell_15 rfl fl5_27 (Nat.lt_of_lt_of_le (by decide : 4 < NC) hN) (congrArg Prod.fst s_4) rfl r_4_2 ?_
  refine ag_iload_1 (q := 19) dX5_readWell_18 rfl ?_
  refine ag_callV_pI (q := 22) (av := [.int _]) (rest := []) dX5_readWell_19 rfl lk5_95 (C_X2_grassOn hN 9 (by decide) r1 _) (by decide) (Nat.le_of_ble_eq_true rfl) (Nat.lt_of_lt_of_le (by decide : 9 < NC) hN) (congrArg Prod.fst s_9) (by decide) (fun _ => rfl) (Nat.le_of_ble_eq_true rfl) rfl (fun r19 e19 => ?_)
  refine ag_bipush (q := 24) (v := 9) dX5_readWell_22 rfl (by decide) ?_
  refine ag_icmp_ne (tgt := 29) (q := 27) dX5_readWell_24 rfl rfl ?_ ?_
  · refine ag_aload_0 (q := 30) dX5_readWell_29 rfl ?_
    refine ag_getR (q := 33) dX5_readWell_30 rfl fl5_18 (Nat.lt_of_lt_of_le (by decide : 4 < NC) hN) (congrArg Prod.fst s_4) rfl r_4_1 ?_
    refine ag_iload_1 (q := 34) dX5_readWell_33 rfl ?_
    refine ag_putI (q := 37) dX5_readWell_34 rfl fl5_112 (Nat.lt_of_lt_of_le (by decide : 6 < NC) hN) (congrArg Prod.fst s_6) rfl ?_
    refine ag_iconst (q := 38) (v := 1) dX5_readWell_37 rfl (by decide) ?_
    exact ag_zretK dX5_readWell_38 rfl (by decide) rfl
  refine ag_iconst (q := 28) (v := 0) dX5_readWell_27 rfl (by decide) ?_
  exact ag_zretK dX5_readWell_28 rfl (by decide) rfl
theorem C_X5_readWell {N : Nat} (hN : NC ≤ N)  (σ : Sg) : ∀ r s', J_X5_readWell  σ = some (r, s') → AMc yX5_readWell mX5_readWell [.ref 4] N R0 σ (some (.int r), N, R0, s') := fun r s' e => AMc.of (L := [some (.ref 4), none]) (by decide) rfl (fun _ => rfl) (fun _ => Nat.le_of_ble_eq_true rfl) (Nat.le_refl _) (fun K => A_X5_readWell K hN  σ _ e (Nat.le_refl _))
def J_X5_readHunger  (σ : Sg) : Option (Int32 × Sg) :=
  (bd2 (J_X5_readNumber  σ) fun r1 s1 => (bd2 (J_X5_passes (59 : Int32) s1) fun r8 s8 => (if r8 = 0 then (some ((0 : Int32), s8)) else (if r1 < (1 : Int32) then (some ((0 : Int32), s8)) else (if r1 ≤ (9 : Int32) then (some ((1 : Int32), (up s8 6 5 r1))) else (some ((0 : Int32), s8)))))))
set_option maxHeartbeats 4000000 in
theorem A_X5_readHunger (K : KT) {N : Nat} (hN : NC ≤ N)  (σ : Sg) : AG K mX5_readHunger N (fun a : Int32 × Sg => (some (.int a.1), N, R0, a.2)) (J_X5_readHunger  σ) 0 [some (.ref 4), none] [] σ := by
  unfold J_X5_readHunger
  refine ag_aload_0 (q := 1) dX5_readHunger_0 rfl ?_
  refine ag_callV_mI (q := 4) (av := []) (rest := []) dX5_readHunger_1 rfl lk5_86 (C_X5_readNumber hN  _) (by decide) (Nat.le_of_ble_eq_true rfl) (Nat.lt_of_lt_of_le (by decide : 4 < NC) hN) (congrArg Prod.fst s_4) (by decide) (fun _ => rfl) (Nat.le_of_ble_eq_true rfl) rfl (fun r1 s1 e1 => ?_)
  refine ag_istore_1 (q := 5) dX5_readHunger_4 rfl (Nat.le_of_ble_eq_true rfl) rfl ?_
  refine ag_aload_0 (q := 6) dX5_readHunger_5 rfl ?_
  refine ag_bipush (q := 8) (v := 59) dX5_readHunger_6 rfl (by decide) ?_
  refine ag_callV_mI (q := 11) (av := [.int _]) (rest := []) dX5_readHunger_8 rfl lk5_82 (C_X5_passes hN (59 : Int32) _) (by decide) (Nat.le_of_ble_eq_true rfl) (Nat.lt_of_lt_of_le (by decide : 4 < NC) hN) (congrArg Prod.fst s_4) (by decide) (fun _ => rfl) (Nat.le_of_ble_eq_true rfl) rfl (fun r8 s8 e8 => ?_)
  refine ag_if_eq (tgt := 25) (q := 14) dX5_readHunger_11 rfl rfl ?_ ?_
  · refine ag_iconst (q := 26) (v := 0) dX5_readHunger_25 rfl (by decide) ?_
    exact ag_zretK dX5_readHunger_26 rfl (by decide) rfl
  refine ag_iload_1 (q := 15) dX5_readHunger_14 rfl ?_
  refine ag_iconst (q := 16) (v := 1) dX5_readHunger_15 rfl (by decide) ?_
  refine ag_icmp_lt (tgt := 25) (q := 19) dX5_readHunger_16 rfl rfl ?_ ?_
  · refine ag_iconst (q := 26) (v := 0) dX5_readHunger_25 rfl (by decide) ?_
    exact ag_zretK dX5_readHunger_26 rfl (by decide) rfl
  refine ag_iload_1 (q := 20) dX5_readHunger_19 rfl ?_
  refine ag_bipush (q := 22) (v := 9) dX5_readHunger_20 rfl (by decide) ?_
  refine ag_icmp_le (tgt := 27) (q := 25) dX5_readHunger_22 rfl rfl ?_ ?_
  · refine ag_aload_0 (q := 28) dX5_readHunger_27 rfl ?_
    refine ag_getR (q := 31) dX5_readHunger_28 rfl fl5_18 (Nat.lt_of_lt_of_le (by decide : 4 < NC) hN) (congrArg Prod.fst s_4) rfl r_4_1 ?_
    refine ag_iload_1 (q := 32) dX5_readHunger_31 rfl ?_
    refine ag_putI (q := 35) dX5_readHunger_32 rfl fl5_115 (Nat.lt_of_lt_of_le (by decide : 6 < NC) hN) (congrArg Prod.fst s_6) rfl ?_
    refine ag_iconst (q := 36) (v := 1) dX5_readHunger_35 rfl (by decide) ?_
    exact ag_zretK dX5_readHunger_36 rfl (by decide) rfl
  refine ag_iconst (q := 26) (v := 0) dX5_readHunger_25 rfl (by decide) ?_
  exact ag_zretK dX5_readHunger_26 rfl (by decide) rfl
theorem C_X5_readHunger {N : Nat} (hN : NC ≤ N)  (σ : Sg) : ∀ r s', J_X5_readHunger  σ = some (r, s') → AMc yX5_readHunger mX5_readHunger [.ref 4] N R0 σ (some (.int r), N, R0, s') := fun r s' e => AMc.of (L := [some (.ref 4), none]) (by decide) rfl (fun _ => rfl) (fun _ => Nat.le_of_ble_eq_true rfl) (Nat.le_refl _) (fun K => A_X5_readHunger K hN  σ _ e (Nat.le_refl _))
def J_X5_readSnow  (σ : Sg) : Option (Int32 × Sg) :=
  (bd2 (J_X5_readNumber  σ) fun r1 s1 => (bd2 (J_X5_passes (59 : Int32) s1) fun r8 s8 => (if r8 = 0 then (some ((0 : Int32), s8)) else (if r1 < 0 then (some ((0 : Int32), s8)) else (if (1 : Int32) < r1 then (some ((0 : Int32), s8)) else (if (s8 6 6) < 0 then (some ((0 : Int32), s8)) else (if (s8 6 6) < (9 : Int32) then (if inb (s8 6 6) 9 = true then (some ((1 : Int32), (up (up s8 8 (s8 6 6).toNatClampNeg r1) 6 6 (((up s8 8 (s8 6 6).toNatClampNeg r1) 6 6) + (1 : Int32))))) else none) else (some ((0 : Int32), s8)))))))))
set_option maxHeartbeats 4000000 in
theorem A_X5_readSnow (K : KT) {N : Nat} (hN : NC ≤ N)  (σ : Sg) : AG K mX5_readSnow N (fun a : Int32 × Sg => (some (.int a.1), N, R0, a.2)) (J_X5_readSnow  σ) 0 [some (.ref 4), none] [] σ := by
  unfold J_X5_readSnow
  refine ag_aload_0 (q := 1) dX5_readSnow_0 rfl ?_
  refine ag_callV_mI (q := 4) (av := []) (rest := []) dX5_readSnow_1 rfl lk5_86 (C_X5_readNumber hN  _) (by decide) (Nat.le_of_ble_eq_true rfl) (Nat.lt_of_lt_of_le (by decide : 4 < NC) hN) (congrArg Prod.fst s_4) (by decide) (fun _ => rfl) (Nat.le_of_ble_eq_true rfl) rfl (fun r1 s1 e1 => ?_)
  refine ag_istore_1 (q := 5) dX5_readSnow_4 rfl (Nat.le_of_ble_eq_true rfl) rfl ?_
  refine ag_aload_0 (q := 6) dX5_readSnow_5 rfl ?_
  refine ag_bipush (q := 8) (v := 59) dX5_readSnow_6 rfl (by decide) ?_
  refine ag_callV_mI (q := 11) (av := [.int _]) (rest := []) dX5_readSnow_8 rfl lk5_82 (C_X5_passes hN (59 : Int32) _) (by decide) (Nat.le_of_ble_eq_true rfl) (Nat.lt_of_lt_of_le (by decide : 4 < NC) hN) (congrArg Prod.fst s_4) (by decide) (fun _ => rfl) (Nat.le_of_ble_eq_true rfl) rfl (fun r8 s8 e8 => ?_)
  refine ag_if_eq (tgt := 45) (q := 14) dX5_readSnow_11 rfl rfl ?_ ?_
  · refine ag_iconst (q := 46) (v := 0) dX5_readSnow_45 rfl (by decide) ?_
    exact ag_zretK dX5_readSnow_46 rfl (by decide) rfl
  refine ag_iload_1 (q := 15) dX5_readSnow_14 rfl ?_
  refine ag_if_lt (tgt := 45) (q := 18) dX5_readSnow_15 rfl rfl ?_ ?_
  · refine ag_iconst (q := 46) (v := 0) dX5_readSnow_45 rfl (by decide) ?_
    exact ag_zretK dX5_readSnow_46 rfl (by decide) rfl
  refine ag_iload_1 (q := 19) dX5_readSnow_18 rfl ?_
  refine ag_iconst (q := 20) (v := 1) dX5_readSnow_19 rfl (by decide) ?_
  refine ag_icmp_gt (tgt := 45) (q := 23) dX5_readSnow_20 rfl rfl ?_ ?_
  · refine ag_iconst (q := 46) (v := 0) dX5_readSnow_45 rfl (by decide) ?_
    exact ag_zretK dX5_readSnow_46 rfl (by decide) rfl
  refine ag_aload_0 (q := 24) dX5_readSnow_23 rfl ?_
  refine ag_getR (q := 27) dX5_readSnow_24 rfl fl5_18 (Nat.lt_of_lt_of_le (by decide : 4 < NC) hN) (congrArg Prod.fst s_4) rfl r_4_1 ?_
  refine ag_getI (q := 30) dX5_readSnow_27 rfl fl5_118 (Nat.lt_of_lt_of_le (by decide : 6 < NC) hN) (congrArg Prod.fst s_6) rfl ?_
  refine ag_if_lt (tgt := 45) (q := 33) dX5_readSnow_30 rfl rfl ?_ ?_
  · refine ag_iconst (q := 46) (v := 0) dX5_readSnow_45 rfl (by decide) ?_
    exact ag_zretK dX5_readSnow_46 rfl (by decide) rfl
  refine ag_aload_0 (q := 34) dX5_readSnow_33 rfl ?_
  refine ag_getR (q := 37) dX5_readSnow_34 rfl fl5_18 (Nat.lt_of_lt_of_le (by decide : 4 < NC) hN) (congrArg Prod.fst s_4) rfl r_4_1 ?_
  refine ag_getI (q := 40) dX5_readSnow_37 rfl fl5_118 (Nat.lt_of_lt_of_le (by decide : 6 < NC) hN) (congrArg Prod.fst s_6) rfl ?_
  refine ag_bipush (q := 42) (v := 9) dX5_readSnow_40 rfl (by decide) ?_
  refine ag_icmp_lt (tgt := 47) (q := 45) dX5_readSnow_42 rfl rfl ?_ ?_
  · refine ag_aload_0 (q := 48) dX5_readSnow_47 rfl ?_
    refine ag_getR (q := 51) dX5_readSnow_48 rfl fl5_18 (Nat.lt_of_lt_of_le (by decide : 4 < NC) hN) (congrArg Prod.fst s_4) rfl r_4_1 ?_
    refine ag_getR (q := 54) dX5_readSnow_51 rfl fl5_121 (Nat.lt_of_lt_of_le (by decide : 6 < NC) hN) (congrArg Prod.fst s_6) rfl r_6_8 ?_
    refine ag_aload_0 (q := 55) dX5_readSnow_54 rfl ?_
    refine ag_getR (q := 58) dX5_readSnow_55 rfl fl5_18 (Nat.lt_of_lt_of_le (by decide : 4 < NC) hN) (congrArg Prod.fst s_4) rfl r_4_1 ?_
    refine ag_getI (q := 61) dX5_readSnow_58 rfl fl5_118 (Nat.lt_of_lt_of_le (by decide : 6 < NC) hN) (congrArg Prod.fst s_6) rfl ?_
    refine ag_iload_1 (q := 62) dX5_readSnow_61 rfl ?_
    refine ag_iast (q := 63) dX5_readSnow_62 rfl (Nat.lt_of_lt_of_le (by decide : 8 < NC) hN) s_8 ?_
    refine ag_aload_0 (q := 64) dX5_readSnow_63 rfl ?_
    refine ag_getR (q := 67) dX5_readSnow_64 rfl fl5_18 (Nat.lt_of_lt_of_le (by decide : 4 < NC) hN) (congrArg Prod.fst s_4) rfl r_4_1 ?_
    refine ag_dup (q := 68) dX5_readSnow_67 rfl rfl ?_
    refine ag_getI (q := 71) dX5_readSnow_68 rfl fl5_118 (Nat.lt_of_lt_of_le (by decide : 6 < NC) hN) (congrArg Prod.fst s_6) rfl ?_
    refine ag_iconst (q := 72) (v := 1) dX5_readSnow_71 rfl (by decide) ?_
    refine ag_iadd (q := 73) dX5_readSnow_72 rfl ?_
    refine ag_putI (q := 76) dX5_readSnow_73 rfl fl5_118 (Nat.lt_of_lt_of_le (by decide : 6 < NC) hN) (congrArg Prod.fst s_6) rfl ?_
    refine ag_iconst (q := 77) (v := 1) dX5_readSnow_76 rfl (by decide) ?_
    exact ag_zretK dX5_readSnow_77 rfl (by decide) rfl
  refine ag_iconst (q := 46) (v := 0) dX5_readSnow_45 rfl (by decide) ?_
  exact ag_zretK dX5_readSnow_46 rfl (by decide) rfl
theorem C_X5_readSnow {N : Nat} (hN : NC ≤ N)  (σ : Sg) : ∀ r s', J_X5_readSnow  σ = some (r, s') → AMc yX5_readSnow mX5_readSnow [.ref 4] N R0 σ (some (.int r), N, R0, s') := fun r s' e => AMc.of (L := [some (.ref 4), none]) (by decide) rfl (fun _ => rfl) (fun _ => Nat.le_of_ble_eq_true rfl) (Nat.le_refl _) (fun K => A_X5_readSnow K hN  σ _ e (Nat.le_refl _))
