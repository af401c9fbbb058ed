def J_X2_reach_b66 (c : Nat) : Nat → Int32 → Int32 → Int32 → Int32 → Int32 → Int32 → Int32 → Sg → Option Int32
  | 0, _, _, _, _, _, _, _, _ => none
  | k + 1, x1, x2, x3, x4, x5, x6, x7, σ =>
    (if (6 : Int32) ≤ x7 then (some x5) else (bd1 (J_X2_isOpen c x1 x6 x3 σ) fun r78 => (if r78 = 0 then (some x5) else (if x4 = 0 then (bd1 (J_X2_grassOn c x6 σ) fun r96 => (if 0 < r96 then (some x6) else (bd1 (J_X2_occupant c x6 σ) fun r105 => (if r105 = (-4 : Int32) then (bd1 (J_X1_beside (lnd c) x6 x2 σ) fun r123 => (J_X2_reach_b66 c  k x1 x2 x3 x4 x6 r123 (x7 + (1)) σ)) else (some x6))))) else (some x6)))))
set_option maxHeartbeats 4000000 in
theorem A_X2_reach_b66 (K : KT) {N : Nat} (hN : NC ≤ N) (c : Nat) (hc : isM c = true) : ∀ (k : Nat) (x1 : Int32) (x2 : Int32) (x3 : Int32) (x4 : Int32) (x5 : Int32) (x6 : Int32) (x7 : Int32) (σ : Sg), AG K mX2_reach N (fun a : Int32 => (some (.int a), N, R0, σ)) (J_X2_reach_b66 c  k x1 x2 x3 x4 x5 x6 x7 σ) 66 [some (.ref c), some (.int x1), some (.int x2), some (.int x3), some (.int x4), some (.int x5), some (.int x6), some (.int x7)] [] σ := by
  intro k
  induction k with
  | zero => intro x1 x2 x3 x4 x5 x6 x7 σ; exact ag_none
  | succ k ih =>
    intro x1 x2 x3 x4 x5 x6 x7 σ
    rw [J_X2_reach_b66]
    refine ag_iload_7 (q := 68) dX2_reach_66 rfl ?_
    refine ag_bipush (q := 70) (v := 6) dX2_reach_68 rfl (by decide) ?_
    refine ag_icmp_ge (tgt := 134) (q := 73) dX2_reach_70 rfl rfl ?_ ?_
    · refine ag_iload_5 (q := 136) dX2_reach_134 rfl ?_
      exact ag_iret dX2_reach_136 rfl rfl
    refine ag_aload_0 (q := 74) dX2_reach_73 rfl ?_
    refine ag_iload_1 (q := 75) dX2_reach_74 rfl ?_
    refine ag_iload_6 (q := 77) dX2_reach_75 rfl ?_
    refine ag_iload_3 (q := 78) dX2_reach_77 rfl ?_
    refine ag_callV_pI (q := 81) (av := [.int _, .int _, .int _]) (rest := []) dX2_reach_78 rfl lk2_70 (C_X2_isOpen hN c hc x1 x6 x3 _) (by decide) (Nat.le_of_ble_eq_true rfl) (nlt (mlt hc) hN) (mS hc) (by decide) (fun _ => rfl) (Nat.le_of_ble_eq_true rfl) rfl (fun r78 e78 => ?_)
    refine ag_if_eq (tgt := 134) (q := 84) dX2_reach_81 rfl rfl ?_ ?_
    · refine ag_iload_5 (q := 136) dX2_reach_134 rfl ?_
      exact ag_iret dX2_reach_136 rfl rfl
    refine ag_iload_6 (q := 86) dX2_reach_84 rfl ?_
    refine ag_istore_5 (q := 88) dX2_reach_86 rfl (Nat.le_of_ble_eq_true rfl) rfl ?_
    refine ag_iload_4 (q := 90) dX2_reach_88 rfl ?_
    refine ag_if_ne (tgt := 113) (q := 93) dX2_reach_90 rfl rfl ?_ ?_
    · refine ag_iload_5 (q := 115) dX2_reach_113 rfl ?_
      exact ag_iret dX2_reach_115 rfl rfl
    refine ag_aload_0 (q := 94) dX2_reach_93 rfl ?_
    refine ag_iload_5 (q := 96) dX2_reach_94 rfl ?_
    refine ag_callV_pI (q := 99) (av := [.int _]) (rest := []) dX2_reach_96 rfl lk2_74 (C_X2_grassOn hN c hc x6 _) (by decide) (Nat.le_of_ble_eq_true rfl) (nlt (mlt hc) hN) (mS hc) (by decide) (fun _ => rfl) (Nat.le_of_ble_eq_true rfl) rfl (fun r96 e96 => ?_)
    refine ag_if_gt (tgt := 113) (q := 102) dX2_reach_99 rfl rfl ?_ ?_
    · refine ag_iload_5 (q := 115) dX2_reach_113 rfl ?_
      exact ag_iret dX2_reach_115 rfl rfl
    refine ag_aload_0 (q := 103) dX2_reach_102 rfl ?_
    refine ag_iload_5 (q := 105) dX2_reach_103 rfl ?_
    refine ag_callV_pI (q := 108) (av := [.int _]) (rest := []) dX2_reach_105 rfl lk2_77 (C_X2_occupant hN c hc x6 _) (by decide) (Nat.le_of_ble_eq_true rfl) (nlt (mlt hc) hN) (mS hc) (by decide) (fun _ => rfl) (Nat.le_of_ble_eq_true rfl) rfl (fun r105 e105 => ?_)
    refine ag_bipush (q := 110) (v := -4) dX2_reach_108 rfl (by decide) ?_
    refine ag_icmp_eq (tgt := 116) (q := 113) dX2_reach_110 rfl rfl ?_ ?_
    · refine ag_aload_0 (q := 117) dX2_reach_116 rfl ?_
      refine ag_getR (q := 120) dX2_reach_117 rfl fl2_28 (nlt (mlt hc) hN) (mS hc) rfl (mR0 hc) ?_
      refine ag_iload_5 (q := 122) dX2_reach_120 rfl ?_
      refine ag_iload_2 (q := 123) dX2_reach_122 rfl ?_
      refine ag_callV_pI (q := 126) (av := [.int _, .int _]) (rest := []) dX2_reach_123 rfl lk2_66 (C_X1_beside hN (lnd c) (lndL hc) x6 x2 _) (by decide) (Nat.le_of_ble_eq_true rfl) (nlt (llt (lndL hc)) hN) (lS (lndL hc)) (by decide) (fun _ => rfl) (Nat.le_of_ble_eq_true rfl) rfl (fun r123 e123 => ?_)
      refine ag_istore_6 (q := 128) dX2_reach_126 rfl (Nat.le_of_ble_eq_true rfl) rfl ?_
      refine ag_iinc_7 (q := 131) (d := (1)) dX2_reach_128 rfl (Nat.le_of_ble_eq_true rfl) rfl (by decide) ?_
      refine ag_goto (q := 66) dX2_reach_131 rfl ?_
      exact ih x1 x2 x3 x4 x6 r123 (x7 + (1)) σ
    refine ag_iload_5 (q := 115) dX2_reach_113 rfl ?_
    exact ag_iret dX2_reach_115 rfl rfl
def J_X2_reach_b38 (c : Nat) (x1 : Int32) (x2 : Int32) (x3 : Int32) (x4 : Int32) (w0 : Int32) (w1 : Int32) (σ : Sg) : Option Int32 :=
  (if w1 = w0 then (bd1 (J_X2_placeOf c x1 σ) fun r54 => (bd1 (J_X1_beside (lnd c) r54 x2 σ) fun r58 => (J_X2_reach_b66 c  FU x1 x2 x3 x4 (-4 : Int32) r58 (0 : Int32) σ))) else (some (-4 : Int32)))
set_option maxHeartbeats 4000000 in
theorem A_X2_reach_b38 (K : KT) {N : Nat} (hN : NC ≤ N) (c : Nat) (hc : isM c = true) (x1 : Int32) (x2 : Int32) (x3 : Int32) (x4 : Int32) (w0 : Int32) (w1 : Int32) (σ : Sg) : AG K mX2_reach N (fun a : Int32 => (some (.int a), N, R0, σ)) (J_X2_reach_b38 c  x1 x2 x3 x4 w0 w1 σ) 38 [some (.ref c), some (.int x1), some (.int x2), some (.int x3), some (.int x4), none, none, none] [.int w0, .int w1] σ := by
  unfold J_X2_reach_b38
  refine ag_icmp_eq (tgt := 44) (q := 41) dX2_reach_38 rfl rfl ?_ ?_
  · refine ag_bipush (q := 46) (v := -4) dX2_reach_44 rfl (by decide) ?_
    refine ag_istore_5 (q := 48) dX2_reach_46 rfl (Nat.le_of_ble_eq_true rfl) rfl ?_
    refine ag_aload_0 (q := 49) dX2_reach_48 rfl ?_
    refine ag_getR (q := 52) dX2_reach_49 rfl fl2_28 (nlt (mlt hc) hN) (mS hc) rfl (mR0 hc) ?_
    refine ag_aload_0 (q := 53) dX2_reach_52 rfl ?_
    refine ag_iload_1 (q := 54) dX2_reach_53 rfl ?_
    refine ag_callV_pI (q := 57) (av := [.int _]) (rest := [.ref _]) dX2_reach_54 rfl lk2_46 (C_X2_placeOf hN c hc x1 _) (by decide) (Nat.le_of_ble_eq_true rfl) (nlt (mlt hc) hN) (mS hc) (by decide) (fun _ => rfl) (Nat.le_of_ble_eq_true rfl) rfl (fun r54 e54 => ?_)
    refine ag_iload_2 (q := 58) dX2_reach_57 rfl ?_
    refine ag_callV_pI (q := 61) (av := [.int _, .int _]) (rest := []) dX2_reach_58 rfl lk2_66 (C_X1_beside hN (lnd c) (lndL hc) r54 x2 _) (by decide) (Nat.le_of_ble_eq_true rfl) (nlt (llt (lndL hc)) hN) (lS (lndL hc)) (by decide) (fun _ => rfl) (Nat.le_of_ble_eq_true rfl) rfl (fun r58 e58 => ?_)
    refine ag_istore_6 (q := 63) dX2_reach_61 rfl (Nat.le_of_ble_eq_true rfl) rfl ?_
    refine ag_iconst (q := 64) (v := 0) dX2_reach_63 rfl (by decide) ?_
    refine ag_istore_7 (q := 66) dX2_reach_64 rfl (Nat.le_of_ble_eq_true rfl) rfl ?_
    exact A_X2_reach_b66 K hN c hc  FU x1 x2 x3 x4 (-4 : Int32) r58 (0 : Int32) σ
  refine ag_bipush (q := 43) (v := -4) dX2_reach_41 rfl (by decide) ?_
  exact ag_iret dX2_reach_43 rfl rfl
def J_X2_reach (c : Nat) (a1 : Int32) (a2 : Int32) (a3 : Int32) (σ : Sg) : Option Int32 :=
  (bd1 (J_X2_kindOf c a1 σ) fun r2 => (bd1 (J_X2_isOff c a1 σ) fun r9 => (if r9 = 0 then (if r2 = (2 : Int32) then (bd1 (J_X1_villageOf (lnd c) a1 σ) fun r27 => (if r27 = 0 then (J_X2_reach_b38 c  a1 a2 a3 r2 (0 : Int32) a2 σ) else (J_X2_reach_b38 c  a1 a2 a3 r2 (2 : Int32) a2 σ))) else (bd1 (J_X2_placeOf c a1 σ) fun r54 => (bd1 (J_X1_beside (lnd c) r54 a2 σ) fun r58 => (J_X2_reach_b66 c  FU a1 a2 a3 r2 (-4 : Int32) r58 (0 : Int32) σ)))) else (some (-4 : Int32)))))
set_option maxHeartbeats 4000000 in
theorem A_X2_reach (K : KT) {N : Nat} (hN : NC ≤ N) (c : Nat) (hc : isM c = true) (a1 : Int32) (a2 : Int32) (a3 : Int32) (σ : Sg) : AG K mX2_reach N (fun a : Int32 => (some (.int a), N, R0, σ)) (J_X2_reach c a1 a2 a3 σ) 0 [some (.ref c), some (.int a1), some (.int a2), some (.int a3), none, none, none, none] [] σ := by
  unfold J_X2_reach
  refine ag_aload_0 (q := 1) dX2_reach_0 rfl ?_
  refine ag_iload_1 (q := 2) dX2_reach_1 rfl ?_
  refine ag_callV_pI (q := 5) (av := [.int _]) (rest := []) dX2_reach_2 rfl lk2_57 (C_X2_kindOf hN c hc a1 _) (by decide) (Nat.le_of_ble_eq_true rfl) (nlt (mlt hc) hN) (mS hc) (by decide) (fun _ => rfl) (Nat.le_of_ble_eq_true rfl) rfl (fun r2 e2 => ?_)
  refine ag_istore_4 (q := 7) dX2_reach_5 rfl (Nat.le_of_ble_eq_true rfl) rfl ?_
  refine ag_aload_0 (q := 8) dX2_reach_7 rfl ?_
  refine ag_iload_1 (q := 9) dX2_reach_8 rfl ?_
  refine ag_callV_pI (q := 12) (av := [.int _]) (rest := []) dX2_reach_9 rfl lk2_60 (C_X2_isOff hN c hc a1 _) (by decide) (Nat.le_of_ble_eq_true rfl) (nlt (mlt hc) hN) (mS hc) (by decide) (fun _ => rfl) (Nat.le_of_ble_eq_true rfl) rfl (fun r9 e9 => ?_)
  refine ag_if_ne (tgt := 41) (q := 15) dX2_reach_12 rfl rfl ?_ ?_
  · refine ag_bipush (q := 43) (v := -4) dX2_reach_41 rfl (by decide) ?_
    exact ag_iret dX2_reach_43 rfl rfl
  refine ag_iload_4 (q := 17) dX2_reach_15 rfl ?_
  refine ag_iconst (q := 18) (v := 2) dX2_reach_17 rfl (by decide) ?_
  refine ag_icmp_ne (tgt := 44) (q := 21) dX2_reach_18 rfl rfl ?_ ?_
  · refine ag_bipush (q := 46) (v := -4) dX2_reach_44 rfl (by decide) ?_
    refine ag_istore_5 (q := 48) dX2_reach_46 rfl (Nat.le_of_ble_eq_true rfl) rfl ?_
    refine ag_aload_0 (q := 49) dX2_reach_48 rfl ?_
    refine ag_getR (q := 52) dX2_reach_49 rfl fl2_28 (nlt (mlt hc) hN) (mS hc) rfl (mR0 hc) ?_
    refine ag_aload_0 (q := 53) dX2_reach_52 rfl ?_
    refine ag_iload_1 (q := 54) dX2_reach_53 rfl ?_
    refine ag_callV_pI (q := 57) (av := [.int _]) (rest := [.ref _]) dX2_reach_54 rfl lk2_46 (C_X2_placeOf hN c hc a1 _) (by decide) (Nat.le_of_ble_eq_true rfl) (nlt (mlt hc) hN) (mS hc) (by decide) (fun _ => rfl) (Nat.le_of_ble_eq_true rfl) rfl (fun r54 e54 => ?_)
    refine ag_iload_2 (q := 58) dX2_reach_57 rfl ?_
    refine ag_callV_pI (q := 61) (av := [.int _, .int _]) (rest := []) dX2_reach_58 rfl lk2_66 (C_X1_beside hN (lnd c) (lndL hc) r54 a2 _) (by decide) (Nat.le_of_ble_eq_true rfl) (nlt (llt (lndL hc)) hN) (lS (lndL hc)) (by decide) (fun _ => rfl) (Nat.le_of_ble_eq_true rfl) rfl (fun r58 e58 => ?_)
    refine ag_istore_6 (q := 63) dX2_reach_61 rfl (Nat.le_of_ble_eq_true rfl) rfl ?_
    refine ag_iconst (q := 64) (v := 0) dX2_reach_63 rfl (by decide) ?_
    refine ag_istore_7 (q := 66) dX2_reach_64 rfl (Nat.le_of_ble_eq_true rfl) rfl ?_
    exact A_X2_reach_b66 K hN c hc  FU a1 a2 a3 r2 (-4 : Int32) r58 (0 : Int32) σ
  refine ag_iload_2 (q := 22) dX2_reach_21 rfl ?_
  refine ag_aload_0 (q := 23) dX2_reach_22 rfl ?_
  refine ag_getR (q := 26) dX2_reach_23 rfl fl2_28 (nlt (mlt hc) hN) (mS hc) rfl (mR0 hc) ?_
  refine ag_iload_1 (q := 27) dX2_reach_26 rfl ?_
  refine ag_callV_pI (q := 30) (av := [.int _]) (rest := [.int _]) dX2_reach_27 rfl lk2_63 (C_X1_villageOf hN (lnd c) (lndL hc) a1 _) (by decide) (Nat.le_of_ble_eq_true rfl) (nlt (llt (lndL hc)) hN) (lS (lndL hc)) (by decide) (fun _ => rfl) (Nat.le_of_ble_eq_true rfl) rfl (fun r27 e27 => ?_)
  refine ag_if_ne (tgt := 37) (q := 33) dX2_reach_30 rfl rfl ?_ ?_
  · refine ag_iconst (q := 38) (v := 2) dX2_reach_37 rfl (by decide) ?_
    exact A_X2_reach_b38 K hN c hc  a1 a2 a3 r2 (2 : Int32) a2 σ
  refine ag_iconst (q := 34) (v := 0) dX2_reach_33 rfl (by decide) ?_
  refine ag_goto (q := 38) dX2_reach_34 rfl ?_
  exact A_X2_reach_b38 K hN c hc  a1 a2 a3 r2 (0 : Int32) a2 σ
theorem C_X2_reach {N : Nat} (hN : NC ≤ N) (c : Nat) (hc : isM c = true) (a1 : Int32) (a2 : Int32) (a3 : Int32) (σ : Sg) : ∀ r, J_X2_reach c a1 a2 a3 σ = some r → AMc yX2_reach mX2_reach [.ref c, .int a1, .int a2, .int a3] N R0 σ (some (.int r), N, R0, σ) := fun r e => AMc.of (L := [some (.ref c), some (.int a1), some (.int a2), some (.int a3), none, none, none, none]) (by decide) rfl (fun _ => rfl) (fun _ => Nat.le_of_ble_eq_true rfl) (Nat.le_refl _) (fun K => A_X2_reach K hN c hc a1 a2 a3 σ _ e (Nat.le_refl _))
def J_X2_driven (c : Nat) (a1 : Int32) (a2 : Int32) (σ : Sg) : Option Int32 :=
  (bd1 (J_X1_villageOf (lnd c) a1 σ) fun r5 => (bd1 (J_X2_turn c σ) fun r9 => (if r5 = r9 then (bd1 (J_X2_snowing c σ) fun r19 => (bd1 (J_X2_reach c a1 a2 r19 σ) fun r22 => (some r22))) else (some (-4 : Int32)))))
set_option maxHeartbeats 4000000 in
theorem A_X2_driven (K : KT) {N : Nat} (hN : NC ≤ N) (c : Nat) (hc : isM c = true) (a1 : Int32) (a2 : Int32) (σ : Sg) : AG K mX2_driven N (fun a : Int32 => (some (.int a), N, R0, σ)) (J_X2_driven c a1 a2 σ) 0 [some (.ref c), some (.int a1), some (.int a2)] [] σ := by
  unfold J_X2_driven
  refine ag_aload_0 (q := 1) dX2_driven_0 rfl ?_
  refine ag_getR (q := 4) dX2_driven_1 rfl fl2_28 (nlt (mlt hc) hN) (mS hc) rfl (mR0 hc) ?_
  refine ag_iload_1 (q := 5) dX2_driven_4 rfl ?_
  refine ag_callV_pI (q := 8) (av := [.int _]) (rest := []) dX2_driven_5 rfl lk2_63 (C_X1_villageOf hN (lnd c) (lndL hc) a1 _) (by decide) (Nat.le_of_ble_eq_true rfl) (nlt (llt (lndL hc)) hN) (lS (lndL hc)) (by decide) (fun _ => rfl) (Nat.le_of_ble_eq_true rfl) rfl (fun r5 e5 => ?_)
  refine ag_aload_0 (q := 9) dX2_driven_8 rfl ?_
  refine ag_callV_pI (q := 12) (av := []) (rest := [.int _]) dX2_driven_9 rfl lk2_95 (C_X2_turn hN c hc _) (by decide) (Nat.le_of_ble_eq_true rfl) (nlt (mlt hc) hN) (mS hc) (by decide) (fun _ => rfl) (Nat.le_of_ble_eq_true rfl) rfl (fun r9 e9 => ?_)
  refine ag_icmp_ne (tgt := 28) (q := 15) dX2_driven_12 rfl rfl ?_ ?_
  · refine ag_bipush (q := 30) (v := -4) dX2_driven_28 rfl (by decide) ?_
    exact ag_iret dX2_driven_30 rfl rfl
  refine ag_aload_0 (q := 16) dX2_driven_15 rfl ?_
  refine ag_iload_1 (q := 17) dX2_driven_16 rfl ?_
  refine ag_iload_2 (q := 18) dX2_driven_17 rfl ?_
  refine ag_aload_0 (q := 19) dX2_driven_18 rfl ?_
  refine ag_callV_pI (q := 22) (av := []) (rest := [.int _, .int _, .ref _]) dX2_driven_19 rfl lk2_99 (C_X2_snowing hN c hc _) (by decide) (Nat.le_of_ble_eq_true rfl) (nlt (mlt hc) hN) (mS hc) (by decide) (fun _ => rfl) (Nat.le_of_ble_eq_true rfl) rfl (fun r19 e19 => ?_)
  refine ag_callV_pI (q := 25) (av := [.int _, .int _, .int _]) (rest := []) dX2_driven_22 rfl lk2_103 (C_X2_reach hN c hc a1 a2 r19 _) (by decide) (Nat.le_of_ble_eq_true rfl) (nlt (mlt hc) hN) (mS hc) (by decide) (fun _ => rfl) (Nat.le_of_ble_eq_true rfl) rfl (fun r22 e22 => ?_)
  refine ag_goto (q := 30) dX2_driven_25 rfl ?_
  exact ag_iret dX2_driven_30 rfl rfl
theorem C_X2_driven {N : Nat} (hN : NC ≤ N) (c : Nat) (hc : isM c = true) (a1 : Int32) (a2 : Int32) (σ : Sg) : ∀ r, J_X2_driven c a1 a2 σ = some r → AMc yX2_driven mX2_driven [.ref c, .int a1, .int a2] N R0 σ (some (.int r), N, R0, σ) := fun r e => AMc.of (L := [some (.ref c), some (.int a1), some (.int a2)]) (by decide) rfl (fun _ => rfl) (fun _ => Nat.le_of_ble_eq_true rfl) (Nat.le_refl _) (fun K => A_X2_driven K hN c hc a1 a2 σ _ e (Nat.le_refl _))
def J_X0_note (a1 : Int32) (a2 : Int32) (σ : Sg) : Option (Unit × Sg) :=
  (if a1 < 0 then (some ((), σ)) else (if (5 : Int32) ≤ a1 then (some ((), σ)) else (if inb a1 5 = true then (some ((), (up σ 93 a1.toNatClampNeg a2))) else none)))
set_option maxHeartbeats 4000000 in
theorem A_X0_note (K : KT) {N : Nat} (hN : NC ≤ N) (a1 : Int32) (a2 : Int32) (σ : Sg) : AG K mX0_note N (fun a : Unit × Sg => (none, N, R0, a.2)) (J_X0_note a1 a2 σ) 0 [some (.ref 92), some (.int a1), some (.int a2)] [] σ := by
  unfold J_X0_note
  refine ag_iload_1 (q := 1) dX0_note_0 rfl ?_
  refine ag_if_lt (tgt := 20) (q := 4) dX0_note_1 rfl rfl ?_ ?_
  · exact ag_vret dX0_note_20 rfl rfl
  refine ag_iload_1 (q := 5) dX0_note_4 rfl ?_
  refine ag_aload_0 (q := 6) dX0_note_5 rfl ?_
  refine ag_getR (q := 9) dX0_note_6 rfl fl0_9 (Nat.lt_of_lt_of_le (by decide : 92 < NC) hN) (congrArg Prod.fst s_92) rfl r_92_2 ?_
  refine ag_alen (q := 10) (v := 5) dX0_note_9 rfl (Nat.lt_of_lt_of_le (by decide : 93 < NC) hN) s_93 (Or.inl rfl) rfl ?_
  refine ag_icmp_ge (tgt := 20) (q := 13) dX0_note_10 rfl rfl ?_ ?_
  · exact ag_vret dX0_note_20 rfl rfl
  refine ag_aload_0 (q := 14) dX0_note_13 rfl ?_
  refine ag_getR (q := 17) dX0_note_14 rfl fl0_9 (Nat.lt_of_lt_of_le (by decide : 92 < NC) hN) (congrArg Prod.fst s_92) rfl r_92_2 ?_
  refine ag_iload_1 (q := 18) dX0_note_17 rfl ?_
  refine ag_iload_2 (q := 19) dX0_note_18 rfl ?_
  refine ag_iast (q := 20) dX0_note_19 rfl (Nat.lt_of_lt_of_le (by decide : 93 < NC) hN) s_93 ?_
  exact ag_vret dX0_note_20 rfl rfl
theorem C_X0_note {N : Nat} (hN : NC ≤ N) (a1 : Int32) (a2 : Int32) (σ : Sg) : ∀ r s', J_X0_note a1 a2 σ = some (r, s') → AMc yX0_note mX0_note [.ref 92, .int a1, .int a2] N R0 σ (none, N, R0, s') := fun r s' e => AMc.of (L := [some (.ref 92), some (.int a1), some (.int a2)]) (by decide) rfl (fun _ => rfl) (fun _ => Nat.le_of_ble_eq_true rfl) (Nat.le_refl _) (fun K => A_X0_note K hN a1 a2 σ _ e (Nat.le_refl _))
theorem lkr0_52 (n : Nat) : LV RX0 52 yX0_comesToWell (mX0_comesToWell n) 4 0 := lk0_52
def J_X0_comesToWell_b250  (rc : Int32 → Int32 → Int32 → Int32 → Sg → Option (Int32 × Sg)) (x1 : Int32) (x2 : Int32) (x3 : Int32) (x4 : Int32) (x6 : Int32) (x7 : Int32) (σ : Sg) : Option (Int32 × Sg) :=
  (if x7 = 0 then (bd2 (J_X0_pass x1 (-4 : Int32) (-4 : Int32) σ) fun r261 s261 => (bd1 (J_X2_staying r261 x3 s261) fun r265 => (if r265 = x6 then (bd2 (rc (x1 + (1 : Int32)) x2 x3 (x4 + (1 : Int32)) s261) fun r283 s283 => (if r283 = 0 then (some ((0 : Int32), s283)) else (bd2 (J_X0_note x4 (99 : Int32) s283) fun r294 s294 => (some ((1 : Int32), s294))))) else (some ((0 : Int32), s261))))) else (some ((0 : Int32), σ)))
set_option maxHeartbeats 4000000 in
theorem A_X0_comesToWell_b250 (K : KT) {N : Nat} (hN : NC ≤ N)  (n : Nat) (rc : Int32 → Int32 → Int32 → Int32 → Sg → Option (Int32 × Sg)) (hrc : ∀ b0 b1 b2 b3 σ r s', rc b0 b1 b2 b3 σ = some (r, s') → AMc yX0_comesToWell (mX0_comesToWell n) [.ref 92, .int b0, .int b1, .int b2, .int b3] N R0 σ (some (.int r), N, R0, s')) (x1 : Int32) (x2 : Int32) (x3 : Int32) (x4 : Int32) (x6 : Int32) (x7 : Int32) (σ : Sg) : AG K (mX0_comesToWell (n + 1)) N (fun a : Int32 × Sg => (some (.int a.1), N, R0, a.2)) (J_X0_comesToWell_b250  rc  x1 x2 x3 x4 x6 x7 σ) 250 [some (.ref 92), some (.int x1), some (.int x2), some (.int x3), some (.int x4), none, some (.int x6), some (.int x7), none, none, none] [] σ := by
  unfold J_X0_comesToWell_b250
  refine ag_iload_7 (q := 252) dX0_comesToWell_250 rfl ?_
  refine ag_if_ne (tgt := 299) (q := 255) dX0_comesToWell_252 rfl rfl ?_ ?_
  · refine ag_iconst (q := 300) (v := 0) dX0_comesToWell_299 rfl (by decide) ?_
    exact ag_zretK dX0_comesToWell_300 rfl (by decide) rfl
  refine ag_aload_0 (q := 256) dX0_comesToWell_255 rfl ?_
  refine ag_iload_1 (q := 257) dX0_comesToWell_256 rfl ?_
  refine ag_bipush (q := 259) (v := -4) dX0_comesToWell_257 rfl (by decide) ?_
  refine ag_bipush (q := 261) (v := -4) dX0_comesToWell_259 rfl (by decide) ?_
  refine ag_callV_mR (q := 264) (av := [.int _, .int _, .int _]) (rest := []) dX0_comesToWell_261 rfl lk0_71 (C_X0_pass hN x1 (-4 : Int32) (-4 : Int32) _) (by show 4 + 1 ≤ 5 + (n + 1); omega) (Nat.le_of_ble_eq_true rfl) (Nat.lt_of_lt_of_le (by decide : 92 < NC) hN) (congrArg Prod.fst s_92) (by decide) (fun _ => rfl) (Nat.le_of_ble_eq_true rfl) rfl (fun r261 s261 e261 => ?_)
  refine ag_iload_3 (q := 265) dX0_comesToWell_264 rfl ?_
  refine ag_callV_pI (q := 268) (av := [.int _]) (rest := []) dX0_comesToWell_265 rfl lk0_64 (C_X2_staying hN r261 (G_X0_pass e261) x3 _) (by show 2 + 1 ≤ 5 + (n + 1); omega) (Nat.le_of_ble_eq_true rfl) (nlt (mlt (G_X0_pass e261)) hN) (mS (G_X0_pass e261)) (by decide) (fun _ => rfl) (Nat.le_of_ble_eq_true rfl) rfl (fun r265 e265 => ?_)
  refine ag_iload_6 (q := 270) dX0_comesToWell_268 rfl ?_
  refine ag_icmp_ne (tgt := 299) (q := 273) dX0_comesToWell_270 rfl rfl ?_ ?_
  · refine ag_iconst (q := 300) (v := 0) dX0_comesToWell_299 rfl (by decide) ?_
    exact ag_zretK dX0_comesToWell_300 rfl (by decide) rfl
  refine ag_aload_0 (q := 274) dX0_comesToWell_273 rfl ?_
  refine ag_iload_1 (q := 275) dX0_comesToWell_274 rfl ?_
  refine ag_iconst (q := 276) (v := 1) dX0_comesToWell_275 rfl (by decide) ?_
  refine ag_iadd (q := 277) dX0_comesToWell_276 rfl ?_
  refine ag_iload_2 (q := 278) dX0_comesToWell_277 rfl ?_
  refine ag_iload_3 (q := 279) dX0_comesToWell_278 rfl ?_
  refine ag_iload_4 (q := 281) dX0_comesToWell_279 rfl ?_
  refine ag_iconst (q := 282) (v := 1) dX0_comesToWell_281 rfl (by decide) ?_
  refine ag_iadd (q := 283) dX0_comesToWell_282 rfl ?_
  refine ag_callV_mI (q := 286) (av := [.int _, .int _, .int _, .int _]) (rest := []) dX0_comesToWell_283 rfl (lkr0_52 n) (hrc _ _ _ _ _) (by show 5 + n + 1 ≤ 5 + (n + 1); omega) (Nat.le_of_ble_eq_true rfl) (Nat.lt_of_lt_of_le (by decide : 92 < NC) hN) (congrArg Prod.fst s_92) (by decide) (fun _ => rfl) (Nat.le_of_ble_eq_true rfl) rfl (fun r283 s283 e283 => ?_)
  refine ag_if_eq (tgt := 299) (q := 289) dX0_comesToWell_286 rfl rfl ?_ ?_
  · refine ag_iconst (q := 300) (v := 0) dX0_comesToWell_299 rfl (by decide) ?_
    exact ag_zretK dX0_comesToWell_300 rfl (by decide) rfl
  refine ag_aload_0 (q := 290) dX0_comesToWell_289 rfl ?_
  refine ag_iload_4 (q := 292) dX0_comesToWell_290 rfl ?_
  refine ag_bipush (q := 294) (v := 99) dX0_comesToWell_292 rfl (by decide) ?_
  refine ag_callV_mU (q := 297) (av := [.int _, .int _]) (rest := []) dX0_comesToWell_294 rfl lk0_90 (C_X0_note hN x4 (99 : Int32) _) (by show 1 + 1 ≤ 5 + (n + 1); omega) (Nat.le_of_ble_eq_true rfl) (Nat.lt_of_lt_of_le (by decide : 92 < NC) hN) (congrArg Prod.fst s_92) (by decide) (fun _ => rfl) (Nat.le_of_ble_eq_true rfl) rfl (fun r294 s294 e294 => ?_)
  refine ag_iconst (q := 298) (v := 1) dX0_comesToWell_297 rfl (by decide) ?_
  exact ag_zretK dX0_comesToWell_298 rfl (by decide) rfl
def J_X0_comesToWell_b200  (rc : Int32 → Int32 → Int32 → Int32 → Sg → Option (Int32 × Sg)) (y120 : Int32 → Int32 → Int32 → Int32 → Nat → Int32 → Int32 → Int32 → Sg → Option (Int32 × Sg)) (x1 : Int32) (x2 : Int32) (x3 : Int32) (x4 : Int32) (x5 : Nat) (x6 : Int32) (x7 : Int32) (x8 : Int32) (x9 : Int32) (x10 : Int32) (σ : Sg) : Option (Int32 × Sg) :=
  (bd2 (J_X0_pass x1 x9 x10 σ) fun r206 s206 => (bd1 (J_X2_staying r206 x3 s206) fun r210 => (if r210 = x6 then (bd2 (rc (x1 + (1 : Int32)) x2 x3 (x4 + (1 : Int32)) s206) fun r228 s228 => (if r228 = 0 then (y120 x1 x2 x3 x4 x5 x6 x7 (x8 + (1)) s228) else (bd2 (J_X0_note x4 x8 s228) fun r239 s239 => (some ((1 : Int32), s239))))) else (y120 x1 x2 x3 x4 x5 x6 x7 (x8 + (1)) s206))))
set_option maxHeartbeats 4000000 in
theorem A_X0_comesToWell_b200 (K : KT) {N : Nat} (hN : NC ≤ N)  (n : Nat) (rc : Int32 → Int32 → Int32 → Int32 → Sg → Option (Int32 × Sg)) (hrc : ∀ b0 b1 b2 b3 σ r s', rc b0 b1 b2 b3 σ = some (r, s') → AMc yX0_comesToWell (mX0_comesToWell n) [.ref 92, .int b0, .int b1, .int b2, .int b3] N R0 σ (some (.int r), N, R0, s')) (y120 : Int32 → Int32 → Int32 → Int32 → Nat → Int32 → Int32 → Int32 → Sg → Option (Int32 × Sg)) (hy120 : ∀ (x1 : Int32) (x2 : Int32) (x3 : Int32) (x4 : Int32) (x5 : Nat) (hx5 : isM x5 = true) (x6 : Int32) (x7 : Int32) (x8 : Int32) (σ : Sg), AG K (mX0_comesToWell (n + 1)) N (fun a : Int32 × Sg => (some (.int a.1), N, R0, a.2)) (y120 x1 x2 x3 x4 x5 x6 x7 x8 σ) 120 [some (.ref 92), some (.int x1), some (.int x2), some (.int x3), some (.int x4), some (.ref x5), some (.int x6), some (.int x7), some (.int x8), none, none] [] σ) (x1 : Int32) (x2 : Int32) (x3 : Int32) (x4 : Int32) (x5 : Nat) (hx5 : isM x5 = true) (x6 : Int32) (x7 : Int32) (x8 : Int32) (x9 : Int32) (x10 : Int32) (σ : Sg) : AG K (mX0_comesToWell (n + 1)) N (fun a : Int32 × Sg => (some (.int a.1), N, R0, a.2)) (J_X0_comesToWell_b200  rc y120 x1 x2 x3 x4 x5 x6 x7 x8 x9 x10 σ) 200 [some (.ref 92), some (.int x1), some (.int x2), some (.int x3), some (.int x4), some (.ref x5), some (.int x6), some (.int x7), some (.int x8), some (.int x9), some (.int x10)] [] σ := by
  unfold J_X0_comesToWell_b200
  refine ag_aload_0 (q := 201) dX0_comesToWell_200 rfl ?_
  refine ag_iload_1 (q := 202) dX0_comesToWell_201 rfl ?_
  refine ag_iload_9 (q := 204) dX0_comesToWell_202 rfl ?_
  refine ag_iload_10 (q := 206) dX0_comesToWell_204 rfl ?_
  refine ag_callV_mR (q := 209) (av := [.int _, .int _, .int _]) (rest := []) dX0_comesToWell_206 rfl lk0_71 (C_X0_pass hN x1 x9 x10 _) (by show 4 + 1 ≤ 5 + (n + 1); omega) (Nat.le_of_ble_eq_true rfl) (Nat.lt_of_lt_of_le (by decide : 92 < NC) hN) (congrArg Prod.fst s_92) (by decide) (fun _ => rfl) (Nat.le_of_ble_eq_true rfl) rfl (fun r206 s206 e206 => ?_)
  refine ag_iload_3 (q := 210) dX0_comesToWell_209 rfl ?_
  refine ag_callV_pI (q := 213) (av := [.int _]) (rest := []) dX0_comesToWell_210 rfl lk0_64 (C_X2_staying hN r206 (G_X0_pass e206) x3 _) (by show 2 + 1 ≤ 5 + (n + 1); omega) (Nat.le_of_ble_eq_true rfl) (nlt (mlt (G_X0_pass e206)) hN) (mS (G_X0_pass e206)) (by decide) (fun _ => rfl) (Nat.le_of_ble_eq_true rfl) rfl (fun r210 e210 => ?_)
  refine ag_iload_6 (q := 215) dX0_comesToWell_213 rfl ?_
  refine ag_icmp_ne (tgt := 244) (q := 218) dX0_comesToWell_215 rfl rfl ?_ ?_
  · refine ag_iinc_8 (q := 247) (d := (1)) dX0_comesToWell_244 rfl (Nat.le_of_ble_eq_true rfl) rfl (by decide) ?_
    refine ag_goto (q := 120) dX0_comesToWell_247 rfl ?_
    refine ag_kill_9 ?_
    refine ag_kill_10 ?_
    exact hy120 x1 x2 x3 x4 x5 hx5 x6 x7 (x8 + (1)) s206
  refine ag_aload_0 (q := 219) dX0_comesToWell_218 rfl ?_
  refine ag_iload_1 (q := 220) dX0_comesToWell_219 rfl ?_
  refine ag_iconst (q := 221) (v := 1) dX0_comesToWell_220 rfl (by decide) ?_
  refine ag_iadd (q := 222) dX0_comesToWell_221 rfl ?_
  refine ag_iload_2 (q := 223) dX0_comesToWell_222 rfl ?_
  refine ag_iload_3 (q := 224) dX0_comesToWell_223 rfl ?_
  refine ag_iload_4 (q := 226) dX0_comesToWell_224 rfl ?_
  refine ag_iconst (q := 227) (v := 1) dX0_comesToWell_226 rfl (by decide) ?_
  refine ag_iadd (q := 228) dX0_comesToWell_227 rfl ?_
  refine ag_callV_mI (q := 231) (av := [.int _, .int _, .int _, .int _]) (rest := []) dX0_comesToWell_228 rfl (lkr0_52 n) (hrc _ _ _ _ _) (by show 5 + n + 1 ≤ 5 + (n + 1); omega) (Nat.le_of_ble_eq_true rfl) (Nat.lt_of_lt_of_le (by decide : 92 < NC) hN) (congrArg Prod.fst s_92) (by decide) (fun _ => rfl) (Nat.le_of_ble_eq_true rfl) rfl (fun r228 s228 e228 => ?_)
  refine ag_if_eq (tgt := 244) (q := 234) dX0_comesToWell_231 rfl rfl ?_ ?_
  · refine ag_iinc_8 (q := 247) (d := (1)) dX0_comesToWell_244 rfl (Nat.le_of_ble_eq_true rfl) rfl (by decide) ?_
    refine ag_goto (q := 120) dX0_comesToWell_247 rfl ?_
    refine ag_kill_9 ?_
    refine ag_kill_10 ?_
    exact hy120 x1 x2 x3 x4 x5 hx5 x6 x7 (x8 + (1)) s228
  refine ag_aload_0 (q := 235) dX0_comesToWell_234 rfl ?_
  refine ag_iload_4 (q := 237) dX0_comesToWell_235 rfl ?_
  refine ag_iload_8 (q := 239) dX0_comesToWell_237 rfl ?_
  refine ag_callV_mU (q := 242) (av := [.int _, .int _]) (rest := []) dX0_comesToWell_239 rfl lk0_90 (C_X0_note hN x4 x8 _) (by show 1 + 1 ≤ 5 + (n + 1); omega) (Nat.le_of_ble_eq_true rfl) (Nat.lt_of_lt_of_le (by decide : 92 < NC) hN) (congrArg Prod.fst s_92) (by decide) (fun _ => rfl) (Nat.le_of_ble_eq_true rfl) rfl (fun r239 s239 e239 => ?_)
  refine ag_iconst (q := 243) (v := 1) dX0_comesToWell_242 rfl (by decide) ?_
  exact ag_zretK dX0_comesToWell_243 rfl (by decide) rfl
def J_X0_comesToWell_b120  (rc : Int32 → Int32 → Int32 → Int32 → Sg → Option (Int32 × Sg)) : Nat → Int32 → Int32 → Int32 → Int32 → Nat → Int32 → Int32 → Int32 → Sg → Option (Int32 × Sg)
  | 0, _, _, _, _, _, _, _, _, _ => none
  | k + 1, x1, x2, x3, x4, x5, x6, x7, x8, σ =>
    (if ((10 : Int32) * (σ 1 3)) ≤ x8 then (J_X0_comesToWell_b250  rc  x1 x2 x3 x4 x6 x7 σ) else (if (99 : Int32) ≤ x8 then (J_X0_comesToWell_b250  rc  x1 x2 x3 x4 x6 x7 σ) else (bd1 (J_X2_driven x5 (x8 / (10 : Int32)) (rmI x8 (10 : Int32)) σ) fun r158 => (if r158 = (-4 : Int32) then (J_X0_comesToWell_b120  rc  k x1 x2 x3 x4 x5 x6 x7 (x8 + (1)) σ) else (if x7 = 0 then (J_X0_comesToWell_b200  rc (fun x1 x2 x3 x4 x5 x6 x7 x8 σ => J_X0_comesToWell_b120  rc  k x1 x2 x3 x4 x5 x6 x7 x8 σ) x1 x2 x3 x4 x5 x6 x7 x8 (x8 / (10 : Int32)) r158 σ) else (if r158 = (σ 1 4) then (bd1 (J_X2_kindOf x5 (x8 / (10 : Int32)) σ) fun r191 => (if r191 = 0 then (J_X0_comesToWell_b200  rc (fun x1 x2 x3 x4 x5 x6 x7 x8 σ => J_X0_comesToWell_b120  rc  k x1 x2 x3 x4 x5 x6 x7 x8 σ) x1 x2 x3 x4 x5 x6 x7 x8 (x8 / (10 : Int32)) r158 σ) else (J_X0_comesToWell_b120  rc  k x1 x2 x3 x4 x5 x6 x7 (x8 + (1)) σ))) else (J_X0_comesToWell_b120  rc  k x1 x2 x3 x4 x5 x6 x7 (x8 + (1)) σ)))))))
set_option maxHeartbeats 4000000 in
theorem A_X0_comesToWell_b120 (K : KT) {N : Nat} (hN : NC ≤ N)  (n : Nat) (rc : Int32 → Int32 → Int32 → Int32 → Sg → Option (Int32 × Sg)) (hrc : ∀ b0 b1 b2 b3 σ r s', rc b0 b1 b2 b3 σ = some (r, s') → AMc yX0_comesToWell (mX0_comesToWell n) [.ref 92, .int b0, .int b1, .int b2, .int b3] N R0 σ (some (.int r), N, R0, s')) : ∀ (k : Nat) (x1 : Int32) (x2 : Int32) (x3 : Int32) (x4 : Int32) (x5 : Nat) (hx5 : isM x5 = true) (x6 : Int32) (x7 : Int32) (x8 : Int32) (σ : Sg), AG K (mX0_comesToWell (n + 1)) N (fun a : Int32 × Sg => (some (.int a.1), N, R0, a.2)) (J_X0_comesToWell_b120  rc  k x1 x2 x3 x4 x5 x6 x7 x8 σ) 120 [some (.ref 92), some (.int x1), some (.int x2), some (.int x3), some (.int x4), some (.ref x5), some (.int x6), some (.int x7), some (.int x8), none, none] [] σ := by
  intro k
  induction k with
  | zero => intro x1 x2 x3 x4 x5 hx5 x6 x7 x8 σ; exact ag_none
  | succ k ih =>
    intro x1 x2 x3 x4 x5 hx5 x6 x7 x8 σ
    rw [J_X0_comesToWell_b120]
    refine ag_iload_8 (q := 122) dX0_comesToWell_120 rfl ?_
    refine ag_bipush (q := 124) (v := 10) dX0_comesToWell_122 rfl (by decide) ?_
    refine ag_aload_0 (q := 125) dX0_comesToWell_124 rfl ?_
    refine ag_getR (q := 128) dX0_comesToWell_125 rfl fl0_22 (Nat.lt_of_lt_of_le (by decide : 92 < NC) hN) (congrArg Prod.fst s_92) rfl r_92_0 ?_
    refine ag_getI (q := 131) dX0_comesToWell_128 rfl fl0_75 (Nat.lt_of_lt_of_le (by decide : 1 < NC) hN) (congrArg Prod.fst s_1) rfl ?_
    refine ag_imul (q := 132) dX0_comesToWell_131 rfl ?_
    refine ag_icmp_ge (tgt := 250) (q := 135) dX0_comesToWell_132 rfl rfl ?_ ?_
    · refine ag_kill_5 ?_
      refine ag_kill_8 ?_
      exact A_X0_comesToWell_b250 K hN  n rc hrc  x1 x2 x3 x4 x6 x7 σ
    refine ag_iload_8 (q := 137) dX0_comesToWell_135 rfl ?_
    refine ag_bipush (q := 139) (v := 99) dX0_comesToWell_137 rfl (by decide) ?_
    refine ag_icmp_ge (tgt := 250) (q := 142) dX0_comesToWell_139 rfl rfl ?_ ?_
    · refine ag_kill_5 ?_
      refine ag_kill_8 ?_
      exact A_X0_comesToWell_b250 K hN  n rc hrc  x1 x2 x3 x4 x6 x7 σ
    refine ag_iload_8 (q := 144) dX0_comesToWell_142 rfl ?_
    refine ag_bipush (q := 146) (v := 10) dX0_comesToWell_144 rfl (by decide) ?_
    refine ag_idivK (q := 147) dX0_comesToWell_146 rfl (by decide) ?_
    refine ag_istore_9 (q := 149) dX0_comesToWell_147 rfl (Nat.le_of_ble_eq_true rfl) rfl ?_
    refine ag_aload_5 (q := 151) dX0_comesToWell_149 rfl ?_
    refine ag_iload_9 (q := 153) dX0_comesToWell_151 rfl ?_
    refine ag_iload_8 (q := 155) dX0_comesToWell_153 rfl ?_
    refine ag_bipush (q := 157) (v := 10) dX0_comesToWell_155 rfl (by decide) ?_
    refine ag_iremK (q := 158) dX0_comesToWell_157 rfl (by decide) ?_
    refine ag_callV_pI (q := 161) (av := [.int _, .int _]) (rest := []) dX0_comesToWell_158 rfl lk0_80 (C_X2_driven hN x5 hx5 (x8 / (10 : Int32)) (rmI x8 (10 : Int32)) _) (by show 4 + 1 ≤ 5 + (n + 1); omega) (Nat.le_of_ble_eq_true rfl) (nlt (mlt hx5) hN) (mS hx5) (by decide) (fun _ => rfl) (Nat.le_of_ble_eq_true rfl) rfl (fun r158 e158 => ?_)
    refine ag_istore_10 (q := 163) dX0_comesToWell_161 rfl (Nat.le_of_ble_eq_true rfl) rfl ?_
    refine ag_iload_10 (q := 165) dX0_comesToWell_163 rfl ?_
    refine ag_bipush (q := 167) (v := -4) dX0_comesToWell_165 rfl (by decide) ?_
    refine ag_icmp_eq (tgt := 244) (q := 170) dX0_comesToWell_167 rfl rfl ?_ ?_
    · refine ag_iinc_8 (q := 247) (d := (1)) dX0_comesToWell_244 rfl (Nat.le_of_ble_eq_true rfl) rfl (by decide) ?_
      refine ag_goto (q := 120) dX0_comesToWell_247 rfl ?_
      refine ag_kill_9 ?_
      refine ag_kill_10 ?_
      exact ih x1 x2 x3 x4 x5 hx5 x6 x7 (x8 + (1)) σ
    refine ag_iload_7 (q := 172) dX0_comesToWell_170 rfl ?_
    refine ag_if_eq (tgt := 200) (q := 175) dX0_comesToWell_172 rfl rfl ?_ ?_
    · exact A_X0_comesToWell_b200 K hN  n rc hrc (fun x1 x2 x3 x4 x5 x6 x7 x8 σ => J_X0_comesToWell_b120  rc  k x1 x2 x3 x4 x5 x6 x7 x8 σ) (fun x1 x2 x3 x4 x5 hx5 x6 x7 x8 σ => ih x1 x2 x3 x4 x5 hx5 x6 x7 x8 σ) x1 x2 x3 x4 x5 hx5 x6 x7 x8 (x8 / (10 : Int32)) r158 σ
    refine ag_iload_10 (q := 177) dX0_comesToWell_175 rfl ?_
    refine ag_aload_0 (q := 178) dX0_comesToWell_177 rfl ?_
    refine ag_getR (q := 181) dX0_comesToWell_178 rfl fl0_22 (Nat.lt_of_lt_of_le (by decide : 92 < NC) hN) (congrArg Prod.fst s_92) rfl r_92_0 ?_
    refine ag_getI (q := 184) dX0_comesToWell_181 rfl fl0_84 (Nat.lt_of_lt_of_le (by decide : 1 < NC) hN) (congrArg Prod.fst s_1) rfl ?_
    refine ag_icmp_ne (tgt := 244) (q := 187) dX0_comesToWell_184 rfl rfl ?_ ?_
    · refine ag_iinc_8 (q := 247) (d := (1)) dX0_comesToWell_244 rfl (Nat.le_of_ble_eq_true rfl) rfl (by decide) ?_
      refine ag_goto (q := 120) dX0_comesToWell_247 rfl ?_
      refine ag_kill_9 ?_
      refine ag_kill_10 ?_
      exact ih x1 x2 x3 x4 x5 hx5 x6 x7 (x8 + (1)) σ
    refine ag_aload_5 (q := 189) dX0_comesToWell_187 rfl ?_
    refine ag_iload_9 (q := 191) dX0_comesToWell_189 rfl ?_
    refine ag_callV_pI (q := 194) (av := [.int _]) (rest := []) dX0_comesToWell_191 rfl lk0_87 (C_X2_kindOf hN x5 hx5 (x8 / (10 : Int32)) _) (by show 1 + 1 ≤ 5 + (n + 1); omega) (Nat.le_of_ble_eq_true rfl) (nlt (mlt hx5) hN) (mS hx5) (by decide) (fun _ => rfl) (Nat.le_of_ble_eq_true rfl) rfl (fun r191 e191 => ?_)
    refine ag_if_eq (tgt := 200) (q := 197) dX0_comesToWell_194 rfl rfl ?_ ?_
    · exact A_X0_comesToWell_b200 K hN  n rc hrc (fun x1 x2 x3 x4 x5 x6 x7 x8 σ => J_X0_comesToWell_b120  rc  k x1 x2 x3 x4 x5 x6 x7 x8 σ) (fun x1 x2 x3 x4 x5 hx5 x6 x7 x8 σ => ih x1 x2 x3 x4 x5 hx5 x6 x7 x8 σ) x1 x2 x3 x4 x5 hx5 x6 x7 x8 (x8 / (10 : Int32)) r158 σ
    refine ag_goto (q := 244) dX0_comesToWell_197 rfl ?_
    refine ag_iinc_8 (q := 247) (d := (1)) dX0_comesToWell_244 rfl (Nat.le_of_ble_eq_true rfl) rfl (by decide) ?_
    refine ag_goto (q := 120) dX0_comesToWell_247 rfl ?_
    refine ag_kill_9 ?_
    refine ag_kill_10 ?_
    exact ih x1 x2 x3 x4 x5 hx5 x6 x7 (x8 + (1)) σ
def J_X0_comesToWell_b63  (rc : Int32 → Int32 → Int32 → Int32 → Sg → Option (Int32 × Sg)) (x1 : Int32) (x2 : Int32) (x3 : Int32) (x4 : Int32) (x5 : Nat) (x6 : Int32) (w0 : Int32) (σ : Sg) : Option (Int32 × Sg) :=
  (bd1 (J_X2_turn x5 σ) fun r67 => (if r67 = x3 then (J_X0_comesToWell_b120  rc  FU x1 x2 x3 x4 x5 x6 w0 (0 : Int32) σ) else (if w0 = 0 then (bd2 (J_X0_pass x1 (-4 : Int32) (-4 : Int32) σ) fun r85 s85 => (bd1 (J_X2_staying r85 x3 s85) fun r89 => (if r89 = x6 then (bd2 (rc (x1 + (1 : Int32)) x2 x3 x4 s85) fun r105 s105 => (if r105 = 0 then (some ((0 : Int32), s105)) else (some ((1 : Int32), s105)))) else (some ((0 : Int32), s85))))) else (some ((0 : Int32), σ)))))
set_option maxHeartbeats 4000000 in
theorem A_X0_comesToWell_b63 (K : KT) {N : Nat} (hN : NC ≤ N)  (n : Nat) (rc : Int32 → Int32 → Int32 → Int32 → Sg → Option (Int32 × Sg)) (hrc : ∀ b0 b1 b2 b3 σ r s', rc b0 b1 b2 b3 σ = some (r, s') → AMc yX0_comesToWell (mX0_comesToWell n) [.ref 92, .int b0, .int b1, .int b2, .int b3] N R0 σ (some (.int r), N, R0, s')) (x1 : Int32) (x2 : Int32) (x3 : Int32) (x4 : Int32) (x5 : Nat) (hx5 : isM x5 = true) (x6 : Int32) (w0 : Int32) (σ : Sg) : AG K (mX0_comesToWell (n + 1)) N (fun a : Int32 × Sg => (some (.int a.1), N, R0, a.2)) (J_X0_comesToWell_b63  rc  x1 x2 x3 x4 x5 x6 w0 σ) 63 [some (.ref 92), some (.int x1), some (.int x2), some (.int x3), some (.int x4), some (.ref x5), some (.int x6), none, none, none, none] [.int w0] σ := by
  unfold J_X0_comesToWell_b63
  refine ag_istore_7 (q := 65) dX0_comesToWell_63 rfl (Nat.le_of_ble_eq_true rfl) rfl ?_
  refine ag_aload_5 (q := 67) dX0_comesToWell_65 rfl ?_
  refine ag_callV_pI (q := 70) (av := []) (rest := []) dX0_comesToWell_67 rfl lk0_68 (C_X2_turn hN x5 hx5 _) (by show 1 + 1 ≤ 5 + (n + 1); omega) (Nat.le_of_ble_eq_true rfl) (nlt (mlt hx5) hN) (mS hx5) (by decide) (fun _ => rfl) (Nat.le_of_ble_eq_true rfl) rfl (fun r67 e67 => ?_)
  refine ag_iload_3 (q := 71) dX0_comesToWell_70 rfl ?_
  refine ag_icmp_eq (tgt := 117) (q := 74) dX0_comesToWell_71 rfl rfl ?_ ?_
  · refine ag_iconst (q := 118) (v := 0) dX0_comesToWell_117 rfl (by decide) ?_
    refine ag_istore_8 (q := 120) dX0_comesToWell_118 rfl (Nat.le_of_ble_eq_true rfl) rfl ?_
    exact A_X0_comesToWell_b120 K hN  n rc hrc  FU x1 x2 x3 x4 x5 hx5 x6 w0 (0 : Int32) σ
  refine ag_iload_7 (q := 76) dX0_comesToWell_74 rfl ?_
  refine ag_if_ne (tgt := 115) (q := 79) dX0_comesToWell_76 rfl rfl ?_ ?_
  · refine ag_iconst (q := 116) (v := 0) dX0_comesToWell_115 rfl (by decide) ?_
    exact ag_zretK dX0_comesToWell_116 rfl (by decide) rfl
  refine ag_aload_0 (q := 80) dX0_comesToWell_79 rfl ?_
  refine ag_iload_1 (q := 81) dX0_comesToWell_80 rfl ?_
  refine ag_bipush (q := 83) (v := -4) dX0_comesToWell_81 rfl (by decide) ?_
  refine ag_bipush (q := 85) (v := -4) dX0_comesToWell_83 rfl (by decide) ?_
  refine ag_callV_mR (q := 88) (av := [.int _, .int _, .int _]) (rest := []) dX0_comesToWell_85 rfl lk0_71 (C_X0_pass hN x1 (-4 : Int32) (-4 : Int32) _) (by show 4 + 1 ≤ 5 + (n + 1); omega) (Nat.le_of_ble_eq_true rfl) (Nat.lt_of_lt_of_le (by decide : 92 < NC) hN) (congrArg Prod.fst s_92) (by decide) (fun _ => rfl) (Nat.le_of_ble_eq_true rfl) rfl (fun r85 s85 e85 => ?_)
  refine ag_iload_3 (q := 89) dX0_comesToWell_88 rfl ?_
  refine ag_callV_pI (q := 92) (av := [.int _]) (rest := []) dX0_comesToWell_89 rfl lk0_64 (C_X2_staying hN r85 (G_X0_pass e85) x3 _) (by show 2 + 1 ≤ 5 + (n + 1); omega) (Nat.le_of_ble_eq_true rfl) (nlt (mlt (G_X0_pass e85)) hN) (mS (G_X0_pass e85)) (by decide) (fun _ => rfl) (Nat.le_of_ble_eq_true rfl) rfl (fun r89 e89 => ?_)
  refine ag_iload_6 (q := 94) dX0_comesToWell_92 rfl ?_
  refine ag_icmp_ne (tgt := 115) (q := 97) dX0_comesToWell_94 rfl rfl ?_ ?_
  · refine ag_iconst (q := 116) (v := 0) dX0_comesToWell_115 rfl (by decide) ?_
    exact ag_zretK dX0_comesToWell_116 rfl (by decide) rfl
  refine ag_aload_0 (q := 98) dX0_comesToWell_97 rfl ?_
  refine ag_iload_1 (q := 99) dX0_comesToWell_98 rfl ?_
  refine ag_iconst (q := 100) (v := 1) dX0_comesToWell_99 rfl (by decide) ?_
  refine ag_iadd (q := 101) dX0_comesToWell_100 rfl ?_
  refine ag_iload_2 (q := 102) dX0_comesToWell_101 rfl ?_
  refine ag_iload_3 (q := 103) dX0_comesToWell_102 rfl ?_
  refine ag_iload_4 (q := 105) dX0_comesToWell_103 rfl ?_
  refine ag_callV_mI (q := 108) (av := [.int _, .int _, .int _, .int _]) (rest := []) dX0_comesToWell_105 rfl (lkr0_52 n) (hrc _ _ _ _ _) (by show 5 + n + 1 ≤ 5 + (n + 1); omega) (Nat.le_of_ble_eq_true rfl) (Nat.lt_of_lt_of_le (by decide : 92 < NC) hN) (congrArg Prod.fst s_92) (by decide) (fun _ => rfl) (Nat.le_of_ble_eq_true rfl) rfl (fun r105 s105 e105 => ?_)
  refine ag_if_eq (tgt := 115) (q := 111) dX0_comesToWell_108 rfl rfl ?_ ?_
  · refine ag_iconst (q := 116) (v := 0) dX0_comesToWell_115 rfl (by decide) ?_
    exact ag_zretK dX0_comesToWell_116 rfl (by decide) rfl
  refine ag_iconst (q := 112) (v := 1) dX0_comesToWell_111 rfl (by decide) ?_
  refine ag_goto (q := 116) dX0_comesToWell_112 rfl ?_
  exact ag_zretK dX0_comesToWell_116 rfl (by decide) rfl
def J_X0_comesToWell_body  (rc : Int32 → Int32 → Int32 → Int32 → Sg → Option (Int32 × Sg)) (a1 : Int32) (a2 : Int32) (a3 : Int32) (a4 : Int32) (σ : Sg) : Option (Int32 × Sg) :=
  (bd1 (J_X4_get 94 a1 σ) fun r5 => (if a2 ≤ a1 then (bd1 (J_X2_ramOnWell r5 a3 (up σ 92 3 a4)) fun r29 => (if r29 = 0 ∨ r29 = 1 then some (r29, (up σ 92 3 a4)) else none)) else (if a1 < (5 : Int32) then (bd1 (J_X2_lost r5 σ) fun r35 => (if r35 = 0 then (bd1 (J_X2_staying r5 a3 σ) fun r46 => (if a1 = (a2 - (1 : Int32)) then (J_X0_comesToWell_b63  rc  a1 a2 a3 a4 r5 r46 (1 : Int32) σ) else (J_X0_comesToWell_b63  rc  a1 a2 a3 a4 r5 r46 (0 : Int32) σ))) else (some ((0 : Int32), σ)))) else (bd1 (J_X2_ramOnWell r5 a3 (up σ 92 3 a4)) fun r29 => (if r29 = 0 ∨ r29 = 1 then some (r29, (up σ 92 3 a4)) else none)))))
set_option maxHeartbeats 4000000 in
theorem A_X0_comesToWell_body (K : KT) {N : Nat} (hN : NC ≤ N)  (n : Nat) (rc : Int32 → Int32 → Int32 → Int32 → Sg → Option (Int32 × Sg)) (hrc : ∀ b0 b1 b2 b3 σ r s', rc b0 b1 b2 b3 σ = some (r, s') → AMc yX0_comesToWell (mX0_comesToWell n) [.ref 92, .int b0, .int b1, .int b2, .int b3] N R0 σ (some (.int r), N, R0, s')) (a1 : Int32) (a2 : Int32) (a3 : Int32) (a4 : Int32) (σ : Sg) : AG K (mX0_comesToWell (n + 1)) N (fun a : Int32 × Sg => (some (.int a.1), N, R0, a.2)) (J_X0_comesToWell_body  rc a1 a2 a3 a4 σ) 0 [some (.ref 92), some (.int a1), some (.int a2), some (.int a3), some (.int a4), none, none, none, none, none, none] [] σ := by
  unfold J_X0_comesToWell_body
  refine ag_aload_0 (q := 1) dX0_comesToWell_0 rfl ?_
  refine ag_getR (q := 4) dX0_comesToWell_1 rfl fl0_31 (Nat.lt_of_lt_of_le (by decide : 92 < NC) hN) (congrArg Prod.fst s_92) rfl r_92_1 ?_
  refine ag_iload_1 (q := 5) dX0_comesToWell_4 rfl ?_
  refine ag_callV_pR (q := 8) (av := [.int _]) (rest := []) dX0_comesToWell_5 rfl lk0_35 (C_X4_get hN 94 (by decide) a1 _) (by show 1 + 1 ≤ 5 + (n + 1); omega) (Nat.le_of_ble_eq_true rfl) (Nat.lt_of_lt_of_le (by decide : 94 < NC) hN) (congrArg Prod.fst s_94) (by decide) (fun _ => rfl) (Nat.le_of_ble_eq_true rfl) rfl (fun r5 e5 => ?_)
  refine ag_astore_5 (q := 10) dX0_comesToWell_8 rfl (Nat.le_of_ble_eq_true rfl) rfl ?_
  refine ag_iload_1 (q := 11) dX0_comesToWell_10 rfl ?_
  refine ag_iload_2 (q := 12) dX0_comesToWell_11 rfl ?_
  refine ag_icmp_ge (tgt := 20) (q := 15) dX0_comesToWell_12 rfl rfl ?_ ?_
  · refine ag_aload_0 (q := 21) dX0_comesToWell_20 rfl ?_
    refine ag_iload_4 (q := 23) dX0_comesToWell_21 rfl ?_
    refine ag_putI (q := 26) dX0_comesToWell_23 rfl fl0_15 (Nat.lt_of_lt_of_le (by decide : 92 < NC) hN) (congrArg Prod.fst s_92) rfl ?_
    refine ag_aload_5 (q := 28) dX0_comesToWell_26 rfl ?_
    refine ag_iload_3 (q := 29) dX0_comesToWell_28 rfl ?_
    refine ag_callV_pI (q := 32) (av := [.int _]) (rest := []) dX0_comesToWell_29 rfl lk0_56 (C_X2_ramOnWell hN r5 (G_X4_get (by decide) e5) a3 _) (by show 2 + 1 ≤ 5 + (n + 1); omega) (Nat.le_of_ble_eq_true rfl) (nlt (mlt (G_X4_get (by decide) e5)) hN) (mS (G_X4_get (by decide) e5)) (by decide) (fun _ => rfl) (Nat.le_of_ble_eq_true rfl) rfl (fun r29 e29 => ?_)
    exact ag_zret dX0_comesToWell_32 rfl rfl
  refine ag_iload_1 (q := 16) dX0_comesToWell_15 rfl ?_
  refine ag_iconst (q := 17) (v := 5) dX0_comesToWell_16 rfl (by decide) ?_
  refine ag_icmp_lt (tgt := 33) (q := 20) dX0_comesToWell_17 rfl rfl ?_ ?_
  · refine ag_aload_5 (q := 35) dX0_comesToWell_33 rfl ?_
    refine ag_callV_pI (q := 38) (av := []) (rest := []) dX0_comesToWell_35 rfl lk0_60 (C_X2_lost hN r5 (G_X4_get (by decide) e5) _) (by show 2 + 1 ≤ 5 + (n + 1); omega) (Nat.le_of_ble_eq_true rfl) (nlt (mlt (G_X4_get (by decide) e5)) hN) (mS (G_X4_get (by decide) e5)) (by decide) (fun _ => rfl) (Nat.le_of_ble_eq_true rfl) rfl (fun r35 e35 => ?_)
    refine ag_if_eq (tgt := 43) (q := 41) dX0_comesToWell_38 rfl rfl ?_ ?_
    · refine ag_aload_5 (q := 45) dX0_comesToWell_43 rfl ?_
      refine ag_iload_3 (q := 46) dX0_comesToWell_45 rfl ?_
      refine ag_callV_pI (q := 49) (av := [.int _]) (rest := []) dX0_comesToWell_46 rfl lk0_64 (C_X2_staying hN r5 (G_X4_get (by decide) e5) a3 _) (by show 2 + 1 ≤ 5 + (n + 1); omega) (Nat.le_of_ble_eq_true rfl) (nlt (mlt (G_X4_get (by decide) e5)) hN) (mS (G_X4_get (by decide) e5)) (by decide) (fun _ => rfl) (Nat.le_of_ble_eq_true rfl) rfl (fun r46 e46 => ?_)
      refine ag_istore_6 (q := 51) dX0_comesToWell_49 rfl (Nat.le_of_ble_eq_true rfl) rfl ?_
      refine ag_iload_1 (q := 52) dX0_comesToWell_51 rfl ?_
      refine ag_iload_2 (q := 53) dX0_comesToWell_52 rfl ?_
      refine ag_iconst (q := 54) (v := 1) dX0_comesToWell_53 rfl (by decide) ?_
      refine ag_isub (q := 55) dX0_comesToWell_54 rfl ?_
      refine ag_icmp_ne (tgt := 62) (q := 58) dX0_comesToWell_55 rfl rfl ?_ ?_
      · refine ag_iconst (q := 63) (v := 0) dX0_comesToWell_62 rfl (by decide) ?_
        exact A_X0_comesToWell_b63 K hN  n rc hrc  a1 a2 a3 a4 r5 (G_X4_get (by decide) e5) r46 (0 : Int32) σ
      refine ag_iconst (q := 59) (v := 1) dX0_comesToWell_58 rfl (by decide) ?_
      refine ag_goto (q := 63) dX0_comesToWell_59 rfl ?_
      exact A_X0_comesToWell_b63 K hN  n rc hrc  a1 a2 a3 a4 r5 (G_X4_get (by decide) e5) r46 (1 : Int32) σ
    refine ag_iconst (q := 42) (v := 0) dX0_comesToWell_41 rfl (by decide) ?_
    exact ag_zretK dX0_comesToWell_42 rfl (by decide) rfl
  refine ag_aload_0 (q := 21) dX0_comesToWell_20 rfl ?_
  refine ag_iload_4 (q := 23) dX0_comesToWell_21 rfl ?_
  refine ag_putI (q := 26) dX0_comesToWell_23 rfl fl0_15 (Nat.lt_of_lt_of_le (by decide : 92 < NC) hN) (congrArg Prod.fst s_92) rfl ?_
  refine ag_aload_5 (q := 28) dX0_comesToWell_26 rfl ?_
  refine ag_iload_3 (q := 29) dX0_comesToWell_28 rfl ?_
  refine ag_callV_pI (q := 32) (av := [.int _]) (rest := []) dX0_comesToWell_29 rfl lk0_56 (C_X2_ramOnWell hN r5 (G_X4_get (by decide) e5) a3 _) (by show 2 + 1 ≤ 5 + (n + 1); omega) (Nat.le_of_ble_eq_true rfl) (nlt (mlt (G_X4_get (by decide) e5)) hN) (mS (G_X4_get (by decide) e5)) (by decide) (fun _ => rfl) (Nat.le_of_ble_eq_true rfl) rfl (fun r29 e29 => ?_)
  exact ag_zret dX0_comesToWell_32 rfl rfl
def J_X0_comesToWell : Nat → Int32 → Int32 → Int32 → Int32 → Sg → Option (Int32 × Sg)
  | 0 => fun _ _ _ _ _ => none
  | n + 1 => fun a1 a2 a3 a4 σ => J_X0_comesToWell_body (J_X0_comesToWell n) a1 a2 a3 a4 σ
theorem C_X0_comesToWell {N : Nat} (hN : NC ≤ N) : ∀ (n : Nat) (a1 : Int32) (a2 : Int32) (a3 : Int32) (a4 : Int32) (σ : Sg), ∀ r s', J_X0_comesToWell n a1 a2 a3 a4 σ = some (r, s') → AMc yX0_comesToWell (mX0_comesToWell n) [.ref 92, .int a1, .int a2, .int a3, .int a4] N R0 σ (some (.int r), N, R0, s') := by
  intro n
  induction n with
  | zero => intro a1 a2 a3 a4 σ r s' e; cases e
  | succ n ih => intro a1 a2 a3 a4 σ r s' e; exact AMc.of (L := [some (.ref 92), some (.int a1), some (.int a2), some (.int a3), some (.int a4), none, none, none, none, none, none]) (by decide) rfl (fun _ => rfl) (fun _ => Nat.le_of_ble_eq_true rfl) (Nat.le_refl _) (fun K => A_X0_comesToWell_body K hN n (J_X0_comesToWell n) ih a1 a2 a3 a4 σ _ e (Nat.le_refl _))
def J_X0_daysToWell_b14  : Nat → Int32 → Int32 → Sg → Option (Int32 × Sg)
  | 0, _, _, _ => none
  | k + 1, x2, x3, σ =>
    (if (5 : Int32) < x3 then (some ((-4 : Int32), σ)) else (bd2 (J_X0_comesToWell FR (0 : Int32) x3 x2 (0 : Int32) σ) fun r24 s24 => (if r24 = 0 then (J_X0_daysToWell_b14   k x2 (x3 + (1)) s24) else (some (x3, s24)))))
set_option maxHeartbeats 4000000 in
theorem A_X0_daysToWell_b14 (K : KT) {N : Nat} (hN : NC ≤ N)  : ∀ (k : Nat) (x2 : Int32) (x3 : Int32) (σ : Sg), AG K mX0_daysToWell N (fun a : Int32 × Sg => (some (.int a.1), N, R0, a.2)) (J_X0_daysToWell_b14   k x2 x3 σ) 14 [some (.ref 92), none, some (.int x2), some (.int x3)] [] σ := by
  intro k
  induction k with
  | zero => intro x2 x3 σ; exact ag_none
  | succ k ih =>
    intro x2 x3 σ
    rw [J_X0_daysToWell_b14]
    refine ag_iload_3 (q := 15) dX0_daysToWell_14 rfl ?_
    refine ag_iconst (q := 16) (v := 5) dX0_daysToWell_15 rfl (by decide) ?_
    refine ag_icmp_gt (tgt := 38) (q := 19) dX0_daysToWell_16 rfl rfl ?_ ?_
    · refine ag_bipush (q := 40) (v := -4) dX0_daysToWell_38 rfl (by decide) ?_
      exact ag_iret dX0_daysToWell_40 rfl rfl
    refine ag_aload_0 (q := 20) dX0_daysToWell_19 rfl ?_
    refine ag_iconst (q := 21) (v := 0) dX0_daysToWell_20 rfl (by decide) ?_
    refine ag_iload_3 (q := 22) dX0_daysToWell_21 rfl ?_
    refine ag_iload_2 (q := 23) dX0_daysToWell_22 rfl ?_
    refine ag_iconst (q := 24) (v := 0) dX0_daysToWell_23 rfl (by decide) ?_
    refine ag_callV_mI (q := 27) (av := [.int _, .int _, .int _, .int _]) (rest := []) dX0_daysToWell_24 rfl (lkr0_52 FR) (C_X0_comesToWell hN FR (0 : Int32) x3 x2 (0 : Int32) _) (by decide) (Nat.le_of_ble_eq_true rfl) (Nat.lt_of_lt_of_le (by decide : 92 < NC) hN) (congrArg Prod.fst s_92) (by decide) (fun _ => rfl) (Nat.le_of_ble_eq_true rfl) rfl (fun r24 s24 e24 => ?_)
    refine ag_if_eq (tgt := 32) (q := 30) dX0_daysToWell_27 rfl rfl ?_ ?_
    · refine ag_iinc_3 (q := 35) (d := (1)) dX0_daysToWell_32 rfl (Nat.le_of_ble_eq_true rfl) rfl (by decide) ?_
      refine ag_goto (q := 14) dX0_daysToWell_35 rfl ?_
      exact ih x2 (x3 + (1)) s24
    refine ag_iload_3 (q := 31) dX0_daysToWell_30 rfl ?_
    exact ag_iret dX0_daysToWell_31 rfl rfl
def J_X0_daysToWell (a1 : Nat) (a2 : Int32) (σ : Sg) : Option (Int32 × Sg) :=
  (bd1 (J_X4_get 94 (0 : Int32) σ) fun r5 => (bd2 (J_X2_copyFrom r5 a1 σ) fun r9 s9 => (J_X0_daysToWell_b14   FU a2 (0 : Int32) s9)))
set_option maxHeartbeats 4000000 in
theorem A_X0_daysToWell (K : KT) {N : Nat} (hN : NC ≤ N) (a1 : Nat) (ha1 : isM a1 = true) (a2 : Int32) (σ : Sg) : AG K mX0_daysToWell N (fun a : Int32 × Sg => (some (.int a.1), N, R0, a.2)) (J_X0_daysToWell a1 a2 σ) 0 [some (.ref 92), some (.ref a1), some (.int a2), none] [] σ := by
  unfold J_X0_daysToWell
  refine ag_aload_0 (q := 1) dX0_daysToWell_0 rfl ?_
  refine ag_getR (q := 4) dX0_daysToWell_1 rfl fl0_31 (Nat.lt_of_lt_of_le (by decide : 92 < NC) hN) (congrArg Prod.fst s_92) rfl r_92_1 ?_
  refine ag_iconst (q := 5) (v := 0) dX0_daysToWell_4 rfl (by decide) ?_
  refine ag_callV_pR (q := 8) (av := [.int _]) (rest := []) dX0_daysToWell_5 rfl lk0_35 (C_X4_get hN 94 (by decide) (0 : Int32) _) (by decide) (Nat.le_of_ble_eq_true rfl) (Nat.lt_of_lt_of_le (by decide : 94 < NC) hN) (congrArg Prod.fst s_94) (by decide) (fun _ => rfl) (Nat.le_of_ble_eq_true rfl) rfl (fun r5 e5 => ?_)
  refine ag_aload_1 (q := 9) dX0_daysToWell_8 rfl ?_
  refine ag_callV_mU (q := 12) (av := [.ref _]) (rest := []) dX0_daysToWell_9 rfl lk0_39 (C_X2_copyFrom hN r5 (G_X4_get (by decide) e5) a1 ha1 _) (by decide) (Nat.le_of_ble_eq_true rfl) (nlt (mlt (G_X4_get (by decide) e5)) hN) (mS (G_X4_get (by decide) e5)) (by decide) (fun _ => rfl) (Nat.le_of_ble_eq_true rfl) rfl (fun r9 s9 e9 => ?_)
  refine ag_iconst (q := 13) (v := 0) dX0_daysToWell_12 rfl (by decide) ?_
  refine ag_istore_3 (q := 14) dX0_daysToWell_13 rfl (Nat.le_of_ble_eq_true rfl) rfl ?_
  refine ag_kill_1 ?_
  exact A_X0_daysToWell_b14 K hN   FU a2 (0 : Int32) s9
theorem C_X0_daysToWell {N : Nat} (hN : NC ≤ N) (a1 : Nat) (ha1 : isM a1 = true) (a2 : Int32) (σ : Sg) : ∀ r s', J_X0_daysToWell a1 a2 σ = some (r, s') → AMc yX0_daysToWell mX0_daysToWell [.ref 92, .ref a1, .int a2] N R0 σ (some (.int r), N, R0, s') := fun r s' e => AMc.of (L := [some (.ref 92), some (.ref a1), some (.int a2), none]) (by decide) rfl (fun _ => rfl) (fun _ => Nat.le_of_ble_eq_true rfl) (Nat.le_refl _) (fun K => A_X0_daysToWell K hN a1 ha1 a2 σ _ e (Nat.le_refl _))
def J_X0_onOwnDay (a1 : Int32) (σ : Sg) : Option Int32 :=
  (if a1 < 0 then (some (-4 : Int32)) else (if (σ 92 3) ≤ a1 then (some (-4 : Int32)) else (if (5 : Int32) ≤ a1 then (some (-4 : Int32)) else (if inb a1 5 = true then (some (σ 93 a1.toNatClampNeg)) else none))))
set_option maxHeartbeats 4000000 in
theorem A_X0_onOwnDay (K : KT) {N : Nat} (hN : NC ≤ N) (a1 : Int32) (σ : Sg) : AG K mX0_onOwnDay N (fun a : Int32 => (some (.int a), N, R0, σ)) (J_X0_onOwnDay a1 σ) 0 [some (.ref 92), some (.int a1)] [] σ := by
  unfold J_X0_onOwnDay
  refine ag_iload_1 (q := 1) dX0_onOwnDay_0 rfl ?_
  refine ag_if_lt (tgt := 30) (q := 4) dX0_onOwnDay_1 rfl rfl ?_ ?_
  · refine ag_bipush (q := 32) (v := -4) dX0_onOwnDay_30 rfl (by decide) ?_
    exact ag_iret dX0_onOwnDay_32 rfl rfl
  refine ag_iload_1 (q := 5) dX0_onOwnDay_4 rfl ?_
  refine ag_aload_0 (q := 6) dX0_onOwnDay_5 rfl ?_
  refine ag_getI (q := 9) dX0_onOwnDay_6 rfl fl0_15 (Nat.lt_of_lt_of_le (by decide : 92 < NC) hN) (congrArg Prod.fst s_92) rfl ?_
  refine ag_icmp_ge (tgt := 30) (q := 12) dX0_onOwnDay_9 rfl rfl ?_ ?_
  · refine ag_bipush (q := 32) (v := -4) dX0_onOwnDay_30 rfl (by decide) ?_
    exact ag_iret dX0_onOwnDay_32 rfl rfl
  refine ag_iload_1 (q := 13) dX0_onOwnDay_12 rfl ?_
  refine ag_aload_0 (q := 14) dX0_onOwnDay_13 rfl ?_
  refine ag_getR (q := 17) dX0_onOwnDay_14 rfl fl0_9 (Nat.lt_of_lt_of_le (by decide : 92 < NC) hN) (congrArg Prod.fst s_92) rfl r_92_2 ?_
  refine ag_alen (q := 18) (v := 5) dX0_onOwnDay_17 rfl (Nat.lt_of_lt_of_le (by decide : 93 < NC) hN) s_93 (Or.inl rfl) rfl ?_
  refine ag_icmp_ge (tgt := 30) (q := 21) dX0_onOwnDay_18 rfl rfl ?_ ?_
  · refine ag_bipush (q := 32) (v := -4) dX0_onOwnDay_30 rfl (by decide) ?_
    exact ag_iret dX0_onOwnDay_32 rfl rfl
  refine ag_aload_0 (q := 22) dX0_onOwnDay_21 rfl ?_
  refine ag_getR (q := 25) dX0_onOwnDay_22 rfl fl0_9 (Nat.lt_of_lt_of_le (by decide : 92 < NC) hN) (congrArg Prod.fst s_92) rfl r_92_2 ?_
  refine ag_iload_1 (q := 26) dX0_onOwnDay_25 rfl ?_
  refine ag_iald (q := 27) dX0_onOwnDay_26 rfl (Nat.lt_of_lt_of_le (by decide : 93 < NC) hN) s_93 ?_
  refine ag_goto (q := 32) dX0_onOwnDay_27 rfl ?_
  exact ag_iret dX0_onOwnDay_32 rfl rfl
theorem C_X0_onOwnDay {N : Nat} (hN : NC ≤ N) (a1 : Int32) (σ : Sg) : ∀ r, J_X0_onOwnDay a1 σ = some r → AMc yX0_onOwnDay mX0_onOwnDay [.ref 92, .int a1] N R0 σ (some (.int r), N, R0, σ) := fun r e => AMc.of (L := [some (.ref 92), some (.int a1)]) (by decide) rfl (fun _ => rfl) (fun _ => Nat.le_of_ble_eq_true rfl) (Nat.le_refl _) (fun K => A_X0_onOwnDay K hN a1 σ _ e (Nat.le_refl _))
def J_X2_worth_b57 (c : Nat) (y4 : Int32 → Int32 → Sg → Option Int32) (x1 : Int32) (x2 : Int32) (w0 : Int32) (σ : Sg) : Option Int32 :=
  (if inb x2 8 = true then (if (σ (c + 2) x2.toNatClampNeg) = (-4 : Int32) then (y4 x1 (x2 + (1)) σ) else (bd1 (J_X1_villageOf (lnd c) x2 σ) fun r75 => (if r75 = 0 then (y4 (x1 + w0) (x2 + (1)) σ) else (y4 (x1 + (-w0)) (x2 + (1)) σ)))) else none)
set_option maxHeartbeats 4000000 in
theorem A_X2_worth_b57 (K : KT) {N : Nat} (hN : NC ≤ N) (c : Nat) (hc : isM c = true) (y4 : Int32 → Int32 → Sg → Option Int32) (hy4 : ∀ (x1 : Int32) (x2 : Int32) (σ : Sg), AG K mX2_worth N (fun a : Int32 => (some (.int a), N, R0, σ)) (y4 x1 x2 σ) 4 [some (.ref c), some (.int x1), some (.int x2), none] [] σ) (x1 : Int32) (x2 : Int32) (w0 : Int32) (σ : Sg) : AG K mX2_worth N (fun a : Int32 => (some (.int a), N, R0, σ)) (J_X2_worth_b57 c y4 x1 x2 w0 σ) 57 [some (.ref c), some (.int x1), some (.int x2), none] [.int w0] σ := by
  unfold J_X2_worth_b57
  refine ag_istore_3 (q := 58) dX2_worth_57 rfl (Nat.le_of_ble_eq_true rfl) rfl ?_
  refine ag_aload_0 (q := 59) dX2_worth_58 rfl ?_
  refine ag_getR (q := 62) dX2_worth_59 rfl fl2_15 (nlt (mlt hc) hN) (mS hc) rfl (mR2 hc) ?_
  refine ag_iload_2 (q := 63) dX2_worth_62 rfl ?_
  refine ag_iald (q := 64) dX2_worth_63 rfl (nlt (mlt2 hc) hN) (mA2 hc) ?_
  refine ag_bipush (q := 66) (v := -4) dX2_worth_64 rfl (by decide) ?_
  refine ag_icmp_eq (tgt := 89) (q := 69) dX2_worth_66 rfl rfl ?_ ?_
  · refine ag_iinc_2 (q := 92) (d := (1)) dX2_worth_89 rfl (Nat.le_of_ble_eq_true rfl) rfl (by decide) ?_
    refine ag_goto (q := 4) dX2_worth_92 rfl ?_
    refine ag_kill_3 ?_
    exact hy4 x1 (x2 + (1)) σ
  refine ag_iload_1 (q := 70) dX2_worth_69 rfl ?_
  refine ag_aload_0 (q := 71) dX2_worth_70 rfl ?_
  refine ag_getR (q := 74) dX2_worth_71 rfl fl2_28 (nlt (mlt hc) hN) (mS hc) rfl (mR0 hc) ?_
  refine ag_iload_2 (q := 75) dX2_worth_74 rfl ?_
  refine ag_callV_pI (q := 78) (av := [.int _]) (rest := [.int _]) dX2_worth_75 rfl lk2_63 (C_X1_villageOf hN (lnd c) (lndL hc) x2 _) (by decide) (Nat.le_of_ble_eq_true rfl) (nlt (llt (lndL hc)) hN) (lS (lndL hc)) (by decide) (fun _ => rfl) (Nat.le_of_ble_eq_true rfl) rfl (fun r75 e75 => ?_)
  refine ag_if_ne (tgt := 85) (q := 81) dX2_worth_78 rfl rfl ?_ ?_
  · refine ag_iload_3 (q := 86) dX2_worth_85 rfl ?_
    refine ag_ineg (q := 87) dX2_worth_86 rfl ?_
    refine ag_iadd (q := 88) dX2_worth_87 rfl ?_
    refine ag_istore_1 (q := 89) dX2_worth_88 rfl (Nat.le_of_ble_eq_true rfl) rfl ?_
    refine ag_iinc_2 (q := 92) (d := (1)) dX2_worth_89 rfl (Nat.le_of_ble_eq_true rfl) rfl (by decide) ?_
    refine ag_goto (q := 4) dX2_worth_92 rfl ?_
    refine ag_kill_3 ?_
    exact hy4 (x1 + (-w0)) (x2 + (1)) σ
  refine ag_iload_3 (q := 82) dX2_worth_81 rfl ?_
  refine ag_goto (q := 87) dX2_worth_82 rfl ?_
  refine ag_iadd (q := 88) dX2_worth_87 rfl ?_
  refine ag_istore_1 (q := 89) dX2_worth_88 rfl (Nat.le_of_ble_eq_true rfl) rfl ?_
  refine ag_iinc_2 (q := 92) (d := (1)) dX2_worth_89 rfl (Nat.le_of_ble_eq_true rfl) rfl (by decide) ?_
  refine ag_goto (q := 4) dX2_worth_92 rfl ?_
  refine ag_kill_3 ?_
  exact hy4 (x1 + w0) (x2 + (1)) σ
def J_X2_worth_b4 (c : Nat) : Nat → Int32 → Int32 → Sg → Option Int32
  | 0, _, _, _ => none
  | k + 1, x1, x2, σ =>
    (if (σ (lnd c) 3) ≤ x2 then (some x1) else (if (8 : Int32) ≤ x2 then (some x1) else (if inb x2 8 = true then (if (σ (c + 3) x2.toNatClampNeg) < 0 then (J_X2_worth_b57 c (fun x1 x2 σ => J_X2_worth_b4 c  k x1 x2 σ) x1 x2 (0 : Int32) σ) else (if inb x2 8 = true then (if (4 : Int32) ≤ (σ (c + 3) x2.toNatClampNeg) then (J_X2_worth_b57 c (fun x1 x2 σ => J_X2_worth_b4 c  k x1 x2 σ) x1 x2 (0 : Int32) σ) else (if inb x2 8 = true then (if inb (σ (c + 3) x2.toNatClampNeg) 4 = true then (J_X2_worth_b57 c (fun x1 x2 σ => J_X2_worth_b4 c  k x1 x2 σ) x1 x2 (wsI (σ (c + 3) x2.toNatClampNeg).toNatClampNeg) σ) else none) else none)) else none)) else none)))
set_option maxHeartbeats 4000000 in
theorem A_X2_worth_b4 (K : KT) {N : Nat} (hN : NC ≤ N) (c : Nat) (hc : isM c = true) : ∀ (k : Nat) (x1 : Int32) (x2 : Int32) (σ : Sg), AG K mX2_worth N (fun a : Int32 => (some (.int a), N, R0, σ)) (J_X2_worth_b4 c  k x1 x2 σ) 4 [some (.ref c), some (.int x1), some (.int x2), none] [] σ := by
  intro k
  induction k with
  | zero => intro x1 x2 σ; exact ag_none
  | succ k ih =>
    intro x1 x2 σ
    rw [J_X2_worth_b4]
    refine ag_iload_2 (q := 5) dX2_worth_4 rfl ?_
    refine ag_aload_0 (q := 6) dX2_worth_5 rfl ?_
    refine ag_getR (q := 9) dX2_worth_6 rfl fl2_28 (nlt (mlt hc) hN) (mS hc) rfl (mR0 hc) ?_
    refine ag_getI (q := 12) dX2_worth_9 rfl fl2_43 (nlt (llt (lndL hc)) hN) (lS (lndL hc)) rfl ?_
    refine ag_icmp_ge (tgt := 95) (q := 15) dX2_worth_12 rfl rfl ?_ ?_
    · refine ag_iload_1 (q := 96) dX2_worth_95 rfl ?_
      exact ag_iret dX2_worth_96 rfl rfl
    refine ag_iload_2 (q := 16) dX2_worth_15 rfl ?_
    refine ag_bipush (q := 18) (v := 8) dX2_worth_16 rfl (by decide) ?_
    refine ag_icmp_ge (tgt := 95) (q := 21) dX2_worth_18 rfl rfl ?_ ?_
    · refine ag_iload_1 (q := 96) dX2_worth_95 rfl ?_
      exact ag_iret dX2_worth_96 rfl rfl
    refine ag_aload_0 (q := 22) dX2_worth_21 rfl ?_
    refine ag_getR (q := 25) dX2_worth_22 rfl fl2_18 (nlt (mlt hc) hN) (mS hc) rfl (mR3 hc) ?_
    refine ag_iload_2 (q := 26) dX2_worth_25 rfl ?_
    refine ag_iald (q := 27) dX2_worth_26 rfl (nlt (mlt3 hc) hN) (mA3 hc) ?_
    refine ag_if_lt (tgt := 56) (q := 30) dX2_worth_27 rfl rfl ?_ ?_
    · refine ag_iconst (q := 57) (v := 0) dX2_worth_56 rfl (by decide) ?_
      exact A_X2_worth_b57 K hN c hc (fun x1 x2 σ => J_X2_worth_b4 c  k x1 x2 σ) (fun x1 x2 σ => ih x1 x2 σ) x1 x2 (0 : Int32) σ
    refine ag_aload_0 (q := 31) dX2_worth_30 rfl ?_
    refine ag_getR (q := 34) dX2_worth_31 rfl fl2_18 (nlt (mlt hc) hN) (mS hc) rfl (mR3 hc) ?_
    refine ag_iload_2 (q := 35) dX2_worth_34 rfl ?_
    refine ag_iald (q := 36) dX2_worth_35 rfl (nlt (mlt3 hc) hN) (mA3 hc) ?_
    refine ag_gstat (q := 39) dX2_worth_36 rfl kg2_136 ?_
    refine ag_tlen (q := 40) dX2_worth_39 rfl ?_
    refine ag_icmp_ge (tgt := 56) (q := 43) dX2_worth_40 rfl rfl ?_ ?_
    · refine ag_iconst (q := 57) (v := 0) dX2_worth_56 rfl (by decide) ?_
      exact A_X2_worth_b57 K hN c hc (fun x1 x2 σ => J_X2_worth_b4 c  k x1 x2 σ) (fun x1 x2 σ => ih x1 x2 σ) x1 x2 (0 : Int32) σ
    refine ag_gstat (q := 46) dX2_worth_43 rfl kg2_136 ?_
    refine ag_aload_0 (q := 47) dX2_worth_46 rfl ?_
    refine ag_getR (q := 50) dX2_worth_47 rfl fl2_18 (nlt (mlt hc) hN) (mS hc) rfl (mR3 hc) ?_
    refine ag_iload_2 (q := 51) dX2_worth_50 rfl ?_
    refine ag_iald (q := 52) dX2_worth_51 rfl (nlt (mlt3 hc) hN) (mA3 hc) ?_
    refine ag_tld (q := 53) dX2_worth_52 rfl ?_
    refine ag_goto (q := 57) dX2_worth_53 rfl ?_
    exact A_X2_worth_b57 K hN c hc (fun x1 x2 σ => J_X2_worth_b4 c  k x1 x2 σ) (fun x1 x2 σ => ih x1 x2 σ) x1 x2 (wsI (σ (c + 3) x2.toNatClampNeg).toNatClampNeg) σ
def J_X2_worth (c : Nat) (σ : Sg) : Option Int32 :=
  (J_X2_worth_b4 c  FU (0 : Int32) (0 : Int32) σ)
set_option maxHeartbeats 4000000 in
theorem A_X2_worth (K : KT) {N : Nat} (hN : NC ≤ N) (c : Nat) (hc : isM c = true) (σ : Sg) : AG K mX2_worth N (fun a : Int32 => (some (.int a), N, R0, σ)) (J_X2_worth c σ) 0 [some (.ref c), none, none, none] [] σ := by
  unfold J_X2_worth
  refine ag_iconst (q := 1) (v := 0) dX2_worth_0 rfl (by decide) ?_
  refine ag_istore_1 (q := 2) dX2_worth_1 rfl (Nat.le_of_ble_eq_true rfl) rfl ?_
  refine ag_iconst (q := 3) (v := 0) dX2_worth_2 rfl (by decide) ?_
  refine ag_istore_2 (q := 4) dX2_worth_3 rfl (Nat.le_of_ble_eq_true rfl) rfl ?_
  exact A_X2_worth_b4 K hN c hc  FU (0 : Int32) (0 : Int32) σ
theorem C_X2_worth {N : Nat} (hN : NC ≤ N) (c : Nat) (hc : isM c = true) (σ : Sg) : ∀ r, J_X2_worth c σ = some r → AMc yX2_worth mX2_worth [.ref c] N R0 σ (some (.int r), N, R0, σ) := fun r e => AMc.of (L := [some (.ref c), none, none, none]) (by decide) rfl (fun _ => rfl) (fun _ => Nat.le_of_ble_eq_true rfl) (Nat.le_refl _) (fun K => A_X2_worth K hN c hc σ _ e (Nat.le_refl _))
theorem lkr0_93 (n : Nat) : LV RX0 93 yX0_worthFrom (mX0_worthFrom n) 2 0 := lk0_93
def J_X0_worthFrom_b126  (rc : Int32 → Int32 → Sg → Option (Int32 × Sg)) (y55 : Int32 → Int32 → Nat → Int32 → Int32 → Int32 → Int32 → Sg → Option (Int32 × Sg)) (x1 : Int32) (x2 : Int32) (x3 : Nat) (x4 : Int32) (x5 : Int32) (x6 : Int32) (x7 : Int32) (x8 : Int32) (w0 : Int32) (w1 : Int32) (σ : Sg) : Option (Int32 × Sg) :=
  (bd2 (J_X0_pass w1 w0 x8 σ) fun r128 s128 => (bd2 (rc (x1 + (1 : Int32)) x2 s128) fun r137 s137 => (if x5 = (-4 : Int32) then (y55 x1 x2 x3 x4 x7 r137 (x7 + (1)) s137) else (if x4 = 0 then (if x6 ≤ r137 then (y55 x1 x2 x3 x4 x5 x6 (x7 + (1)) s137) else (y55 x1 x2 x3 x4 x7 r137 (x7 + (1)) s137)) else (if r137 ≤ x6 then (y55 x1 x2 x3 x4 x5 x6 (x7 + (1)) s137) else (y55 x1 x2 x3 x4 x7 r137 (x7 + (1)) s137))))))
set_option maxHeartbeats 4000000 in
theorem A_X0_worthFrom_b126 (K : KT) {N : Nat} (hN : NC ≤ N)  (n : Nat) (rc : Int32 → Int32 → Sg → Option (Int32 × Sg)) (hrc : ∀ b0 b1 σ r s', rc b0 b1 σ = some (r, s') → AMc yX0_worthFrom (mX0_worthFrom n) [.ref 92, .int b0, .int b1] N R0 σ (some (.int r), N, R0, s')) (y55 : Int32 → Int32 → Nat → Int32 → Int32 → Int32 → Int32 → Sg → Option (Int32 × Sg)) (hy55 : ∀ (x1 : Int32) (x2 : Int32) (x3 : Nat) (hx3 : isM x3 = true) (x4 : Int32) (x5 : Int32) (x6 : Int32) (x7 : Int32) (σ : Sg), AG K (mX0_worthFrom (n + 1)) N (fun a : Int32 × Sg => (some (.int a.1), N, R0, a.2)) (y55 x1 x2 x3 x4 x5 x6 x7 σ) 55 [some (.ref 92), some (.int x1), some (.int x2), some (.ref x3), some (.int x4), some (.int x5), some (.int x6), some (.int x7), none, none] [] σ) (x1 : Int32) (x2 : Int32) (x3 : Nat) (hx3 : isM x3 = true) (x4 : Int32) (x5 : Int32) (x6 : Int32) (x7 : Int32) (x8 : Int32) (w0 : Int32) (w1 : Int32) (σ : Sg) : AG K (mX0_worthFrom (n + 1)) N (fun a : Int32 × Sg => (some (.int a.1), N, R0, a.2)) (J_X0_worthFrom_b126  rc y55 x1 x2 x3 x4 x5 x6 x7 x8 w0 w1 σ) 126 [some (.ref 92), some (.int x1), some (.int x2), some (.ref x3), some (.int x4), some (.int x5), some (.int x6), some (.int x7), some (.int x8), none] [.int w0, .int w1, .ref 92] σ := by
  unfold J_X0_worthFrom_b126
  refine ag_iload_8 (q := 128) dX0_worthFrom_126 rfl ?_
  refine ag_callV_mR (q := 131) (av := [.int _, .int _, .int _]) (rest := []) dX0_worthFrom_128 rfl lk0_71 (C_X0_pass hN w1 w0 x8 _) (by show 4 + 1 ≤ 5 + (n + 1); omega) (Nat.le_of_ble_eq_true rfl) (Nat.lt_of_lt_of_le (by decide : 92 < NC) hN) (congrArg Prod.fst s_92) (by decide) (fun _ => rfl) (Nat.le_of_ble_eq_true rfl) rfl (fun r128 s128 e128 => ?_)
  refine ag_pop (q := 132) dX0_worthFrom_131 rfl rfl ?_
  refine ag_aload_0 (q := 133) dX0_worthFrom_132 rfl ?_
  refine ag_iload_1 (q := 134) dX0_worthFrom_133 rfl ?_
  refine ag_iconst (q := 135) (v := 1) dX0_worthFrom_134 rfl (by decide) ?_
  refine ag_iadd (q := 136) dX0_worthFrom_135 rfl ?_
  refine ag_iload_2 (q := 137) dX0_worthFrom_136 rfl ?_
  refine ag_callV_mI (q := 140) (av := [.int _, .int _]) (rest := []) dX0_worthFrom_137 rfl (lkr0_93 n) (hrc _ _ _) (by show 5 + n + 1 ≤ 5 + (n + 1); omega) (Nat.le_of_ble_eq_true rfl) (Nat.lt_of_lt_of_le (by decide : 92 < NC) hN) (congrArg Prod.fst s_92) (by decide) (fun _ => rfl) (Nat.le_of_ble_eq_true rfl) rfl (fun r137 s137 e137 => ?_)
  refine ag_istore_9 (q := 142) dX0_worthFrom_140 rfl (Nat.le_of_ble_eq_true rfl) rfl ?_
  refine ag_iload_5 (q := 144) dX0_worthFrom_142 rfl ?_
  refine ag_bipush (q := 146) (v := -4) dX0_worthFrom_144 rfl (by decide) ?_
  refine ag_icmp_eq (tgt := 171) (q := 149) dX0_worthFrom_146 rfl rfl ?_ ?_
  · refine ag_iload_7 (q := 173) dX0_worthFrom_171 rfl ?_
    refine ag_istore_5 (q := 175) dX0_worthFrom_173 rfl (Nat.le_of_ble_eq_true rfl) rfl ?_
    refine ag_iload_9 (q := 177) dX0_worthFrom_175 rfl ?_
    refine ag_istore_6 (q := 179) dX0_worthFrom_177 rfl (Nat.le_of_ble_eq_true rfl) rfl ?_
    refine ag_iinc_7 (q := 182) (d := (1)) dX0_worthFrom_179 rfl (Nat.le_of_ble_eq_true rfl) rfl (by decide) ?_
    refine ag_goto (q := 55) dX0_worthFrom_182 rfl ?_
    refine ag_kill_8 ?_
    refine ag_kill_9 ?_
    exact hy55 x1 x2 x3 hx3 x4 x7 r137 (x7 + (1)) s137
  refine ag_iload_4 (q := 151) dX0_worthFrom_149 rfl ?_
  refine ag_if_eq (tgt := 164) (q := 154) dX0_worthFrom_151 rfl rfl ?_ ?_
  · refine ag_iload_9 (q := 166) dX0_worthFrom_164 rfl ?_
    refine ag_iload_6 (q := 168) dX0_worthFrom_166 rfl ?_
    refine ag_icmp_ge (tgt := 179) (q := 171) dX0_worthFrom_168 rfl rfl ?_ ?_
    · refine ag_iinc_7 (q := 182) (d := (1)) dX0_worthFrom_179 rfl (Nat.le_of_ble_eq_true rfl) rfl (by decide) ?_
      refine ag_goto (q := 55) dX0_worthFrom_182 rfl ?_
      refine ag_kill_8 ?_
      refine ag_kill_9 ?_
      exact hy55 x1 x2 x3 hx3 x4 x5 x6 (x7 + (1)) s137
    refine ag_iload_7 (q := 173) dX0_worthFrom_171 rfl ?_
    refine ag_istore_5 (q := 175) dX0_worthFrom_173 rfl (Nat.le_of_ble_eq_true rfl) rfl ?_
    refine ag_iload_9 (q := 177) dX0_worthFrom_175 rfl ?_
    refine ag_istore_6 (q := 179) dX0_worthFrom_177 rfl (Nat.le_of_ble_eq_true rfl) rfl ?_
    refine ag_iinc_7 (q := 182) (d := (1)) dX0_worthFrom_179 rfl (Nat.le_of_ble_eq_true rfl) rfl (by decide) ?_
    refine ag_goto (q := 55) dX0_worthFrom_182 rfl ?_
    refine ag_kill_8 ?_
    refine ag_kill_9 ?_
    exact hy55 x1 x2 x3 hx3 x4 x7 r137 (x7 + (1)) s137
  refine ag_iload_9 (q := 156) dX0_worthFrom_154 rfl ?_
  refine ag_iload_6 (q := 158) dX0_worthFrom_156 rfl ?_
  refine ag_icmp_le (tgt := 179) (q := 161) dX0_worthFrom_158 rfl rfl ?_ ?_
  · refine ag_iinc_7 (q := 182) (d := (1)) dX0_worthFrom_179 rfl (Nat.le_of_ble_eq_true rfl) rfl (by decide) ?_
    refine ag_goto (q := 55) dX0_worthFrom_182 rfl ?_
    refine ag_kill_8 ?_
    refine ag_kill_9 ?_
    exact hy55 x1 x2 x3 hx3 x4 x5 x6 (x7 + (1)) s137
  refine ag_goto (q := 171) dX0_worthFrom_161 rfl ?_
  refine ag_iload_7 (q := 173) dX0_worthFrom_171 rfl ?_
  refine ag_istore_5 (q := 175) dX0_worthFrom_173 rfl (Nat.le_of_ble_eq_true rfl) rfl ?_
  refine ag_iload_9 (q := 177) dX0_worthFrom_175 rfl ?_
  refine ag_istore_6 (q := 179) dX0_worthFrom_177 rfl (Nat.le_of_ble_eq_true rfl) rfl ?_
  refine ag_iinc_7 (q := 182) (d := (1)) dX0_worthFrom_179 rfl (Nat.le_of_ble_eq_true rfl) rfl (by decide) ?_
  refine ag_goto (q := 55) dX0_worthFrom_182 rfl ?_
  refine ag_kill_8 ?_
  refine ag_kill_9 ?_
  exact hy55 x1 x2 x3 hx3 x4 x7 r137 (x7 + (1)) s137
def J_X0_worthFrom_b88  (rc : Int32 → Int32 → Sg → Option (Int32 × Sg)) (y55 : Int32 → Int32 → Nat → Int32 → Int32 → Int32 → Int32 → Sg → Option (Int32 × Sg)) (x1 : Int32) (x2 : Int32) (x3 : Nat) (x4 : Int32) (x5 : Int32) (x6 : Int32) (x7 : Int32) (w0 : Int32) (σ : Sg) : Option (Int32 × Sg) :=
  (if w0 = (-4 : Int32) then (if x7 = (99 : Int32) then (if x7 = (99 : Int32) then (J_X0_worthFrom_b126  rc y55 x1 x2 x3 x4 x5 x6 x7 w0 (-4 : Int32) x1 σ) else (J_X0_worthFrom_b126  rc y55 x1 x2 x3 x4 x5 x6 x7 w0 (x7 / (10 : Int32)) x1 σ)) else (y55 x1 x2 x3 x4 x5 x6 (x7 + (1)) σ)) else (if x7 = (99 : Int32) then (J_X0_worthFrom_b126  rc y55 x1 x2 x3 x4 x5 x6 x7 w0 (-4 : Int32) x1 σ) else (J_X0_worthFrom_b126  rc y55 x1 x2 x3 x4 x5 x6 x7 w0 (x7 / (10 : Int32)) x1 σ)))
set_option maxHeartbeats 4000000 in
theorem A_X0_worthFrom_b88 (K : KT) {N : Nat} (hN : NC ≤ N)  (n : Nat) (rc : Int32 → Int32 → Sg → Option (Int32 × Sg)) (hrc : ∀ b0 b1 σ r s', rc b0 b1 σ = some (r, s') → AMc yX0_worthFrom (mX0_worthFrom n) [.ref 92, .int b0, .int b1] N R0 σ (some (.int r), N, R0, s')) (y55 : Int32 → Int32 → Nat → Int32 → Int32 → Int32 → Int32 → Sg → Option (Int32 × Sg)) (hy55 : ∀ (x1 : Int32) (x2 : Int32) (x3 : Nat) (hx3 : isM x3 = true) (x4 : Int32) (x5 : Int32) (x6 : Int32) (x7 : Int32) (σ : Sg), AG K (mX0_worthFrom (n + 1)) N (fun a : Int32 × Sg => (some (.int a.1), N, R0, a.2)) (y55 x1 x2 x3 x4 x5 x6 x7 σ) 55 [some (.ref 92), some (.int x1), some (.int x2), some (.ref x3), some (.int x4), some (.int x5), some (.int x6), some (.int x7), none, none] [] σ) (x1 : Int32) (x2 : Int32) (x3 : Nat) (hx3 : isM x3 = true) (x4 : Int32) (x5 : Int32) (x6 : Int32) (x7 : Int32) (w0 : Int32) (σ : Sg) : AG K (mX0_worthFrom (n + 1)) N (fun a : Int32 × Sg => (some (.int a.1), N, R0, a.2)) (J_X0_worthFrom_b88  rc y55 x1 x2 x3 x4 x5 x6 x7 w0 σ) 88 [some (.ref 92), some (.int x1), some (.int x2), some (.ref x3), some (.int x4), some (.int x5), some (.int x6), some (.int x7), none, none] [.int w0] σ := by
  unfold J_X0_worthFrom_b88
  refine ag_istore_8 (q := 90) dX0_worthFrom_88 rfl (Nat.le_of_ble_eq_true rfl) rfl ?_
  refine ag_iload_8 (q := 92) dX0_worthFrom_90 rfl ?_
  refine ag_bipush (q := 94) (v := -4) dX0_worthFrom_92 rfl (by decide) ?_
  refine ag_icmp_ne (tgt := 107) (q := 97) dX0_worthFrom_94 rfl rfl ?_ ?_
  · refine ag_aload_0 (q := 108) dX0_worthFrom_107 rfl ?_
    refine ag_iload_1 (q := 109) dX0_worthFrom_108 rfl ?_
    refine ag_iload_7 (q := 111) dX0_worthFrom_109 rfl ?_
    refine ag_bipush (q := 113) (v := 99) dX0_worthFrom_111 rfl (by decide) ?_
    refine ag_icmp_ne (tgt := 121) (q := 116) dX0_worthFrom_113 rfl rfl ?_ ?_
    · refine ag_iload_7 (q := 123) dX0_worthFrom_121 rfl ?_
      refine ag_bipush (q := 125) (v := 10) dX0_worthFrom_123 rfl (by decide) ?_
      refine ag_idivK (q := 126) dX0_worthFrom_125 rfl (by decide) ?_
      exact A_X0_worthFrom_b126 K hN  n rc hrc y55 hy55 x1 x2 x3 hx3 x4 x5 x6 x7 w0 (x7 / (10 : Int32)) x1 σ
    refine ag_bipush (q := 118) (v := -4) dX0_worthFrom_116 rfl (by decide) ?_
    refine ag_goto (q := 126) dX0_worthFrom_118 rfl ?_
    exact A_X0_worthFrom_b126 K hN  n rc hrc y55 hy55 x1 x2 x3 hx3 x4 x5 x6 x7 w0 (-4 : Int32) x1 σ
  refine ag_iload_7 (q := 99) dX0_worthFrom_97 rfl ?_
  refine ag_bipush (q := 101) (v := 99) dX0_worthFrom_99 rfl (by decide) ?_
  refine ag_icmp_eq (tgt := 107) (q := 104) dX0_worthFrom_101 rfl rfl ?_ ?_
  · refine ag_aload_0 (q := 108) dX0_worthFrom_107 rfl ?_
    refine ag_iload_1 (q := 109) dX0_worthFrom_108 rfl ?_
    refine ag_iload_7 (q := 111) dX0_worthFrom_109 rfl ?_
    refine ag_bipush (q := 113) (v := 99) dX0_worthFrom_111 rfl (by decide) ?_
    refine ag_icmp_ne (tgt := 121) (q := 116) dX0_worthFrom_113 rfl rfl ?_ ?_
    · refine ag_iload_7 (q := 123) dX0_worthFrom_121 rfl ?_
      refine ag_bipush (q := 125) (v := 10) dX0_worthFrom_123 rfl (by decide) ?_
      refine ag_idivK (q := 126) dX0_worthFrom_125 rfl (by decide) ?_
      exact A_X0_worthFrom_b126 K hN  n rc hrc y55 hy55 x1 x2 x3 hx3 x4 x5 x6 x7 w0 (x7 / (10 : Int32)) x1 σ
    refine ag_bipush (q := 118) (v := -4) dX0_worthFrom_116 rfl (by decide) ?_
    refine ag_goto (q := 126) dX0_worthFrom_118 rfl ?_
    exact A_X0_worthFrom_b126 K hN  n rc hrc y55 hy55 x1 x2 x3 hx3 x4 x5 x6 x7 w0 (-4 : Int32) x1 σ
  refine ag_goto (q := 179) dX0_worthFrom_104 rfl ?_
  refine ag_iinc_7 (q := 182) (d := (1)) dX0_worthFrom_179 rfl (Nat.le_of_ble_eq_true rfl) rfl (by decide) ?_
  refine ag_goto (q := 55) dX0_worthFrom_182 rfl ?_
  refine ag_kill_8 ?_
  exact hy55 x1 x2 x3 hx3 x4 x5 x6 (x7 + (1)) σ
def J_X0_worthFrom_b55  (rc : Int32 → Int32 → Sg → Option (Int32 × Sg)) : Nat → Int32 → Int32 → Nat → Int32 → Int32 → Int32 → Int32 → Sg → Option (Int32 × Sg)
  | 0, _, _, _, _, _, _, _, _ => none
  | k + 1, x1, x2, x3, x4, x5, x6, x7, σ =>
    (if (99 : Int32) < x7 then (some (x6, (up σ 92 4 x5))) else (if x7 = (99 : Int32) then (J_X0_worthFrom_b88  rc (fun x1 x2 x3 x4 x5 x6 x7 σ => J_X0_worthFrom_b55  rc  k x1 x2 x3 x4 x5 x6 x7 σ) x1 x2 x3 x4 x5 x6 x7 (-4 : Int32) σ) else (bd1 (J_X2_driven x3 (x7 / (10 : Int32)) (rmI x7 (10 : Int32)) σ) fun r85 => (J_X0_worthFrom_b88  rc (fun x1 x2 x3 x4 x5 x6 x7 σ => J_X0_worthFrom_b55  rc  k x1 x2 x3 x4 x5 x6 x7 σ) x1 x2 x3 x4 x5 x6 x7 r85 σ))))
set_option maxHeartbeats 4000000 in
theorem A_X0_worthFrom_b55 (K : KT) {N : Nat} (hN : NC ≤ N)  (n : Nat) (rc : Int32 → Int32 → Sg → Option (Int32 × Sg)) (hrc : ∀ b0 b1 σ r s', rc b0 b1 σ = some (r, s') → AMc yX0_worthFrom (mX0_worthFrom n) [.ref 92, .int b0, .int b1] N R0 σ (some (.int r), N, R0, s')) : ∀ (k : Nat) (x1 : Int32) (x2 : Int32) (x3 : Nat) (hx3 : isM x3 = true) (x4 : Int32) (x5 : Int32) (x6 : Int32) (x7 : Int32) (σ : Sg), AG K (mX0_worthFrom (n + 1)) N (fun a : Int32 × Sg => (some (.int a.1), N, R0, a.2)) (J_X0_worthFrom_b55  rc  k x1 x2 x3 x4 x5 x6 x7 σ) 55 [some (.ref 92), some (.int x1), some (.int x2), some (.ref x3), some (.int x4), some (.int x5), some (.int x6), some (.int x7), none, none] [] σ := by
  intro k
  induction k with
  | zero => intro x1 x2 x3 hx3 x4 x5 x6 x7 σ; exact ag_none
  | succ k ih =>
    intro x1 x2 x3 hx3 x4 x5 x6 x7 σ
    rw [J_X0_worthFrom_b55]
    refine ag_iload_7 (q := 57) dX0_worthFrom_55 rfl ?_
    refine ag_bipush (q := 59) (v := 99) dX0_worthFrom_57 rfl (by decide) ?_
    refine ag_icmp_gt (tgt := 185) (q := 62) dX0_worthFrom_59 rfl rfl ?_ ?_
    · refine ag_aload_0 (q := 186) dX0_worthFrom_185 rfl ?_
      refine ag_iload_5 (q := 188) dX0_worthFrom_186 rfl ?_
      refine ag_putI (q := 191) dX0_worthFrom_188 rfl fl0_19 (Nat.lt_of_lt_of_le (by decide : 92 < NC) hN) (congrArg Prod.fst s_92) rfl ?_
      refine ag_iload_6 (q := 193) dX0_worthFrom_191 rfl ?_
      exact ag_iret dX0_worthFrom_193 rfl rfl
    refine ag_iload_7 (q := 64) dX0_worthFrom_62 rfl ?_
    refine ag_bipush (q := 66) (v := 99) dX0_worthFrom_64 rfl (by decide) ?_
    refine ag_icmp_ne (tgt := 74) (q := 69) dX0_worthFrom_66 rfl rfl ?_ ?_
    · refine ag_aload_3 (q := 75) dX0_worthFrom_74 rfl ?_
      refine ag_iload_7 (q := 77) dX0_worthFrom_75 rfl ?_
      refine ag_bipush (q := 79) (v := 10) dX0_worthFrom_77 rfl (by decide) ?_
      refine ag_idivK (q := 80) dX0_worthFrom_79 rfl (by decide) ?_
      refine ag_iload_7 (q := 82) dX0_worthFrom_80 rfl ?_
      refine ag_bipush (q := 84) (v := 10) dX0_worthFrom_82 rfl (by decide) ?_
      refine ag_iremK (q := 85) dX0_worthFrom_84 rfl (by decide) ?_
      refine ag_callV_pI (q := 88) (av := [.int _, .int _]) (rest := []) dX0_worthFrom_85 rfl lk0_80 (C_X2_driven hN x3 hx3 (x7 / (10 : Int32)) (rmI x7 (10 : Int32)) _) (by show 4 + 1 ≤ 5 + (n + 1); omega) (Nat.le_of_ble_eq_true rfl) (nlt (mlt hx3) hN) (mS hx3) (by decide) (fun _ => rfl) (Nat.le_of_ble_eq_true rfl) rfl (fun r85 e85 => ?_)
      exact A_X0_worthFrom_b88 K hN  n rc hrc (fun x1 x2 x3 x4 x5 x6 x7 σ => J_X0_worthFrom_b55  rc  k x1 x2 x3 x4 x5 x6 x7 σ) (fun x1 x2 x3 hx3 x4 x5 x6 x7 σ => ih x1 x2 x3 hx3 x4 x5 x6 x7 σ) x1 x2 x3 hx3 x4 x5 x6 x7 r85 σ
    refine ag_bipush (q := 71) (v := -4) dX0_worthFrom_69 rfl (by decide) ?_
    refine ag_goto (q := 88) dX0_worthFrom_71 rfl ?_
    exact A_X0_worthFrom_b88 K hN  n rc hrc (fun x1 x2 x3 x4 x5 x6 x7 σ => J_X0_worthFrom_b55  rc  k x1 x2 x3 x4 x5 x6 x7 σ) (fun x1 x2 x3 hx3 x4 x5 x6 x7 σ => ih x1 x2 x3 hx3 x4 x5 x6 x7 σ) x1 x2 x3 hx3 x4 x5 x6 x7 (-4 : Int32) σ
def J_X0_worthFrom_body  (rc : Int32 → Int32 → Sg → Option (Int32 × Sg)) (a1 : Int32) (a2 : Int32) (σ : Sg) : Option (Int32 × Sg) :=
  (bd1 (J_X4_get 94 a1 σ) fun r5 => (if a2 ≤ a1 then (bd1 (J_X2_worth r5 σ) fun r27 => (some (r27, σ))) else (if (3 : Int32) ≤ a1 then (bd1 (J_X2_worth r5 σ) fun r27 => (some (r27, σ))) else (bd1 (J_X2_lost r5 σ) fun r20 => (if r20 = 0 then (bd1 (J_X2_turn r5 σ) fun r32 => (if r32 = 0 then (J_X0_worthFrom_b55  rc  FU a1 a2 r5 (1 : Int32) (-4 : Int32) (0 : Int32) (0 : Int32) σ) else (J_X0_worthFrom_b55  rc  FU a1 a2 r5 (0 : Int32) (-4 : Int32) (0 : Int32) (0 : Int32) σ))) else (bd1 (J_X2_worth r5 σ) fun r27 => (some (r27, σ))))))))
set_option maxHeartbeats 4000000 in
theorem A_X0_worthFrom_body (K : KT) {N : Nat} (hN : NC ≤ N)  (n : Nat) (rc : Int32 → Int32 → Sg → Option (Int32 × Sg)) (hrc : ∀ b0 b1 σ r s', rc b0 b1 σ = some (r, s') → AMc yX0_worthFrom (mX0_worthFrom n) [.ref 92, .int b0, .int b1] N R0 σ (some (.int r), N, R0, s')) (a1 : Int32) (a2 : Int32) (σ : Sg) : AG K (mX0_worthFrom (n + 1)) N (fun a : Int32 × Sg => (some (.int a.1), N, R0, a.2)) (J_X0_worthFrom_body  rc a1 a2 σ) 0 [some (.ref 92), some (.int a1), some (.int a2), none, none, none, none, none, none, none] [] σ := by
  unfold J_X0_worthFrom_body
  refine ag_aload_0 (q := 1) dX0_worthFrom_0 rfl ?_
  refine ag_getR (q := 4) dX0_worthFrom_1 rfl fl0_31 (Nat.lt_of_lt_of_le (by decide : 92 < NC) hN) (congrArg Prod.fst s_92) rfl r_92_1 ?_
  refine ag_iload_1 (q := 5) dX0_worthFrom_4 rfl ?_
  refine ag_callV_pR (q := 8) (av := [.int _]) (rest := []) dX0_worthFrom_5 rfl lk0_35 (C_X4_get hN 94 (by decide) a1 _) (by show 1 + 1 ≤ 5 + (n + 1); omega) (Nat.le_of_ble_eq_true rfl) (Nat.lt_of_lt_of_le (by decide : 94 < NC) hN) (congrArg Prod.fst s_94) (by decide) (fun _ => rfl) (Nat.le_of_ble_eq_true rfl) rfl (fun r5 e5 => ?_)
  refine ag_astore_3 (q := 9) dX0_worthFrom_8 rfl (Nat.le_of_ble_eq_true rfl) rfl ?_
  refine ag_iload_1 (q := 10) dX0_worthFrom_9 rfl ?_
  refine ag_iload_2 (q := 11) dX0_worthFrom_10 rfl ?_
  refine ag_icmp_ge (tgt := 26) (q := 14) dX0_worthFrom_11 rfl rfl ?_ ?_
  · refine ag_aload_3 (q := 27) dX0_worthFrom_26 rfl ?_
    refine ag_callV_pI (q := 30) (av := []) (rest := []) dX0_worthFrom_27 rfl lk0_96 (C_X2_worth hN r5 (G_X4_get (by decide) e5) _) (by show 2 + 1 ≤ 5 + (n + 1); omega) (Nat.le_of_ble_eq_true rfl) (nlt (mlt (G_X4_get (by decide) e5)) hN) (mS (G_X4_get (by decide) e5)) (by decide) (fun _ => rfl) (Nat.le_of_ble_eq_true rfl) rfl (fun r27 e27 => ?_)
    exact ag_iret dX0_worthFrom_30 rfl rfl
  refine ag_iload_1 (q := 15) dX0_worthFrom_14 rfl ?_
  refine ag_iconst (q := 16) (v := 3) dX0_worthFrom_15 rfl (by decide) ?_
  refine ag_icmp_ge (tgt := 26) (q := 19) dX0_worthFrom_16 rfl rfl ?_ ?_
  · refine ag_aload_3 (q := 27) dX0_worthFrom_26 rfl ?_
    refine ag_callV_pI (q := 30) (av := []) (rest := []) dX0_worthFrom_27 rfl lk0_96 (C_X2_worth hN r5 (G_X4_get (by decide) e5) _) (by show 2 + 1 ≤ 5 + (n + 1); omega) (Nat.le_of_ble_eq_true rfl) (nlt (mlt (G_X4_get (by decide) e5)) hN) (mS (G_X4_get (by decide) e5)) (by decide) (fun _ => rfl) (Nat.le_of_ble_eq_true rfl) rfl (fun r27 e27 => ?_)
    exact ag_iret dX0_worthFrom_30 rfl rfl
  refine ag_aload_3 (q := 20) dX0_worthFrom_19 rfl ?_
  refine ag_callV_pI (q := 23) (av := []) (rest := []) dX0_worthFrom_20 rfl lk0_60 (C_X2_lost hN r5 (G_X4_get (by decide) e5) _) (by show 2 + 1 ≤ 5 + (n + 1); omega) (Nat.le_of_ble_eq_true rfl) (nlt (mlt (G_X4_get (by decide) e5)) hN) (mS (G_X4_get (by decide) e5)) (by decide) (fun _ => rfl) (Nat.le_of_ble_eq_true rfl) rfl (fun r20 e20 => ?_)
  refine ag_if_eq (tgt := 31) (q := 26) dX0_worthFrom_23 rfl rfl ?_ ?_
  · refine ag_aload_3 (q := 32) dX0_worthFrom_31 rfl ?_
    refine ag_callV_pI (q := 35) (av := []) (rest := []) dX0_worthFrom_32 rfl lk0_68 (C_X2_turn hN r5 (G_X4_get (by decide) e5) _) (by show 1 + 1 ≤ 5 + (n + 1); omega) (Nat.le_of_ble_eq_true rfl) (nlt (mlt (G_X4_get (by decide) e5)) hN) (mS (G_X4_get (by decide) e5)) (by decide) (fun _ => rfl) (Nat.le_of_ble_eq_true rfl) rfl (fun r32 e32 => ?_)
    refine ag_if_ne (tgt := 42) (q := 38) dX0_worthFrom_35 rfl rfl ?_ ?_
    · refine ag_iconst (q := 43) (v := 0) dX0_worthFrom_42 rfl (by decide) ?_
      refine ag_istore_4 (q := 45) dX0_worthFrom_43 rfl (Nat.le_of_ble_eq_true rfl) rfl ?_
      refine ag_bipush (q := 47) (v := -4) dX0_worthFrom_45 rfl (by decide) ?_
      refine ag_istore_5 (q := 49) dX0_worthFrom_47 rfl (Nat.le_of_ble_eq_true rfl) rfl ?_
      refine ag_iconst (q := 50) (v := 0) dX0_worthFrom_49 rfl (by decide) ?_
      refine ag_istore_6 (q := 52) dX0_worthFrom_50 rfl (Nat.le_of_ble_eq_true rfl) rfl ?_
      refine ag_iconst (q := 53) (v := 0) dX0_worthFrom_52 rfl (by decide) ?_
      refine ag_istore_7 (q := 55) dX0_worthFrom_53 rfl (Nat.le_of_ble_eq_true rfl) rfl ?_
      exact A_X0_worthFrom_b55 K hN  n rc hrc  FU a1 a2 r5 (G_X4_get (by decide) e5) (0 : Int32) (-4 : Int32) (0 : Int32) (0 : Int32) σ
    refine ag_iconst (q := 39) (v := 1) dX0_worthFrom_38 rfl (by decide) ?_
    refine ag_goto (q := 43) dX0_worthFrom_39 rfl ?_
    refine ag_istore_4 (q := 45) dX0_worthFrom_43 rfl (Nat.le_of_ble_eq_true rfl) rfl ?_
    refine ag_bipush (q := 47) (v := -4) dX0_worthFrom_45 rfl (by decide) ?_
    refine ag_istore_5 (q := 49) dX0_worthFrom_47 rfl (Nat.le_of_ble_eq_true rfl) rfl ?_
    refine ag_iconst (q := 50) (v := 0) dX0_worthFrom_49 rfl (by decide) ?_
    refine ag_istore_6 (q := 52) dX0_worthFrom_50 rfl (Nat.le_of_ble_eq_true rfl) rfl ?_
    refine ag_iconst (q := 53) (v := 0) dX0_worthFrom_52 rfl (by decide) ?_
    refine ag_istore_7 (q := 55) dX0_worthFrom_53 rfl (Nat.le_of_ble_eq_true rfl) rfl ?_
    exact A_X0_worthFrom_b55 K hN  n rc hrc  FU a1 a2 r5 (G_X4_get (by decide) e5) (1 : Int32) (-4 : Int32) (0 : Int32) (0 : Int32) σ
  refine ag_aload_3 (q := 27) dX0_worthFrom_26 rfl ?_
  refine ag_callV_pI (q := 30) (av := []) (rest := []) dX0_worthFrom_27 rfl lk0_96 (C_X2_worth hN r5 (G_X4_get (by decide) e5) _) (by show 2 + 1 ≤ 5 + (n + 1); omega) (Nat.le_of_ble_eq_true rfl) (nlt (mlt (G_X4_get (by decide) e5)) hN) (mS (G_X4_get (by decide) e5)) (by decide) (fun _ => rfl) (Nat.le_of_ble_eq_true rfl) rfl (fun r27 e27 => ?_)
  exact ag_iret dX0_worthFrom_30 rfl rfl
def J_X0_worthFrom : Nat → Int32 → Int32 → Sg → Option (Int32 × Sg)
  | 0 => fun _ _ _ => none
  | n + 1 => fun a1 a2 σ => J_X0_worthFrom_body (J_X0_worthFrom n) a1 a2 σ
theorem C_X0_worthFrom {N : Nat} (hN : NC ≤ N) : ∀ (n : Nat) (a1 : Int32) (a2 : Int32) (σ : Sg), ∀ r s', J_X0_worthFrom n a1 a2 σ = some (r, s') → AMc yX0_worthFrom (mX0_worthFrom n) [.ref 92, .int a1, .int a2] N R0 σ (some (.int r), N, R0, s') := by
  intro n
  induction n with
  | zero => intro a1 a2 σ r s' e; cases e
  | succ n ih => intro a1 a2 σ r s' e; exact AMc.of (L := [some (.ref 92), some (.int a1), some (.int a2), none, none, none, none, none, none, none]) (by decide) rfl (fun _ => rfl) (fun _ => Nat.le_of_ble_eq_true rfl) (Nat.le_refl _) (fun K => A_X0_worthFrom_body K hN n (J_X0_worthFrom n) ih a1 a2 σ _ e (Nat.le_refl _))
def J_X0_worthBehind (a1 : Nat) (a2 : Int32) (σ : Sg) : Option (Int32 × Sg) :=
  (bd1 (J_X4_get 94 (0 : Int32) σ) fun r5 => (bd2 (J_X2_copyFrom r5 a1 σ) fun r9 s9 => (bd2 (J_X0_worthFrom FR (0 : Int32) a2 s9) fun r15 s15 => (some (r15, s15)))))
set_option maxHeartbeats 4000000 in
theorem A_X0_worthBehind (K : KT) {N : Nat} (hN : NC ≤ N) (a1 : Nat) (ha1 : isM a1 = true) (a2 : Int32) (σ : Sg) : AG K mX0_worthBehind N (fun a : Int32 × Sg => (some (.int a.1), N, R0, a.2)) (J_X0_worthBehind a1 a2 σ) 0 [some (.ref 92), some (.ref a1), some (.int a2)] [] σ := by
  unfold J_X0_worthBehind
  refine ag_aload_0 (q := 1) dX0_worthBehind_0 rfl ?_
  refine ag_getR (q := 4) dX0_worthBehind_1 rfl fl0_31 (Nat.lt_of_lt_of_le (by decide : 92 < NC) hN) (congrArg Prod.fst s_92) rfl r_92_1 ?_
  refine ag_iconst (q := 5) (v := 0) dX0_worthBehind_4 rfl (by decide) ?_
  refine ag_callV_pR (q := 8) (av := [.int _]) (rest := []) dX0_worthBehind_5 rfl lk0_35 (C_X4_get hN 94 (by decide) (0 : Int32) _) (by decide) (Nat.le_of_ble_eq_true rfl) (Nat.lt_of_lt_of_le (by decide : 94 < NC) hN) (congrArg Prod.fst s_94) (by decide) (fun _ => rfl) (Nat.le_of_ble_eq_true rfl) rfl (fun r5 e5 => ?_)
  refine ag_aload_1 (q := 9) dX0_worthBehind_8 rfl ?_
  refine ag_callV_mU (q := 12) (av := [.ref _]) (rest := []) dX0_worthBehind_9 rfl lk0_39 (C_X2_copyFrom hN r5 (G_X4_get (by decide) e5) a1 ha1 _) (by decide) (Nat.le_of_ble_eq_true rfl) (nlt (mlt (G_X4_get (by decide) e5)) hN) (mS (G_X4_get (by decide) e5)) (by decide) (fun _ => rfl) (Nat.le_of_ble_eq_true rfl) rfl (fun r9 s9 e9 => ?_)
  refine ag_aload_0 (q := 13) dX0_worthBehind_12 rfl ?_
  refine ag_iconst (q := 14) (v := 0) dX0_worthBehind_13 rfl (by decide) ?_
  refine ag_iload_2 (q := 15) dX0_worthBehind_14 rfl ?_
  refine ag_callV_mI (q := 18) (av := [.int _, .int _]) (rest := []) dX0_worthBehind_15 rfl (lkr0_93 FR) (C_X0_worthFrom hN FR (0 : Int32) a2 _) (by decide) (Nat.le_of_ble_eq_true rfl) (Nat.lt_of_lt_of_le (by decide : 92 < NC) hN) (congrArg Prod.fst s_92) (by decide) (fun _ => rfl) (Nat.le_of_ble_eq_true rfl) rfl (fun r15 s15 e15 => ?_)
  exact ag_iret dX0_worthBehind_18 rfl rfl
theorem C_X0_worthBehind {N : Nat} (hN : NC ≤ N) (a1 : Nat) (ha1 : isM a1 = true) (a2 : Int32) (σ : Sg) : ∀ r s', J_X0_worthBehind a1 a2 σ = some (r, s') → AMc yX0_worthBehind mX0_worthBehind [.ref 92, .ref a1, .int a2] N R0 σ (some (.int r), N, R0, s') := fun r s' e => AMc.of (L := [some (.ref 92), some (.ref a1), some (.int a2)]) (by decide) rfl (fun _ => rfl) (fun _ => Nat.le_of_ble_eq_true rfl) (Nat.le_refl _) (fun K => A_X0_worthBehind K hN a1 ha1 a2 σ _ e (Nat.le_refl _))
def J_X2_bogBeside_b2 (c : Nat) : Nat → Int32 → Int32 → Sg → Option Int32
  | 0, _, _, _ => none
  | k + 1, x1, x2, σ =>
    (if (4 : Int32) ≤ x2 then (some (0 : Int32)) else (bd1 (J_X1_beside (lnd c) x1 x2 σ) fun r13 => (if r13 = (-4 : Int32) then (J_X2_bogBeside_b2 c  k x1 (x2 + (1)) σ) else (bd1 (J_X2_grassOn c r13 σ) fun r25 => (if r25 = (9 : Int32) then (some (1 : Int32)) else (J_X2_bogBeside_b2 c  k x1 (x2 + (1)) σ))))))
set_option maxHeartbeats 4000000 in
theorem A_X2_bogBeside_b2 (K : KT) {N : Nat} (hN : NC ≤ N) (c : Nat) (hc : isM c = true) : ∀ (k : Nat) (x1 : Int32) (x2 : Int32) (σ : Sg), AG K mX2_bogBeside N (fun a : Int32 => (some (.int a), N, R0, σ)) (J_X2_bogBeside_b2 c  k x1 x2 σ) 2 [some (.ref c), some (.int x1), some (.int x2), none] [] σ := by
  intro k
  induction k with
  | zero => intro x1 x2 σ; exact ag_none
  | succ k ih =>
    intro x1 x2 σ
    rw [J_X2_bogBeside_b2]
    refine ag_iload_2 (q := 3) dX2_bogBeside_2 rfl ?_
    refine ag_iconst (q := 4) (v := 4) dX2_bogBeside_3 rfl (by decide) ?_
    refine ag_icmp_ge (tgt := 41) (q := 7) dX2_bogBeside_4 rfl rfl ?_ ?_
    · refine ag_iconst (q := 42) (v := 0) dX2_bogBeside_41 rfl (by decide) ?_
      exact ag_zretK dX2_bogBeside_42 rfl (by decide) rfl
    refine ag_aload_0 (q := 8) dX2_bogBeside_7 rfl ?_
    refine ag_getR (q := 11) dX2_bogBeside_8 rfl fl2_28 (nlt (mlt hc) hN) (mS hc) rfl (mR0 hc) ?_
    refine ag_iload_1 (q := 12) dX2_bogBeside_11 rfl ?_
    refine ag_iload_2 (q := 13) dX2_bogBeside_12 rfl ?_
    refine ag_callV_pI (q := 16) (av := [.int _, .int _]) (rest := []) dX2_bogBeside_13 rfl lk2_66 (C_X1_beside hN (lnd c) (lndL hc) x1 x2 _) (by decide) (Nat.le_of_ble_eq_true rfl) (nlt (llt (lndL hc)) hN) (lS (lndL hc)) (by decide) (fun _ => rfl) (Nat.le_of_ble_eq_true rfl) rfl (fun r13 e13 => ?_)
    refine ag_istore_3 (q := 17) dX2_bogBeside_16 rfl (Nat.le_of_ble_eq_true rfl) rfl ?_
    refine ag_iload_3 (q := 18) dX2_bogBeside_17 rfl ?_
    refine ag_bipush (q := 20) (v := -4) dX2_bogBeside_18 rfl (by decide) ?_
    refine ag_icmp_eq (tgt := 35) (q := 23) dX2_bogBeside_20 rfl rfl ?_ ?_
    · refine ag_iinc_2 (q := 38) (d := (1)) dX2_bogBeside_35 rfl (Nat.le_of_ble_eq_true rfl) rfl (by decide) ?_
      refine ag_goto (q := 2) dX2_bogBeside_38 rfl ?_
      refine ag_kill_3 ?_
      exact ih x1 (x2 + (1)) σ
    refine ag_aload_0 (q := 24) dX2_bogBeside_23 rfl ?_
    refine ag_iload_3 (q := 25) dX2_bogBeside_24 rfl ?_
    refine ag_callV_pI (q := 28) (av := [.int _]) (rest := []) dX2_bogBeside_25 rfl lk2_74 (C_X2_grassOn hN c hc r13 _) (by decide) (Nat.le_of_ble_eq_true rfl) (nlt (mlt hc) hN) (mS hc) (by decide) (fun _ => rfl) (Nat.le_of_ble_eq_true rfl) rfl (fun r25 e25 => ?_)
    refine ag_bipush (q := 30) (v := 9) dX2_bogBeside_28 rfl (by decide) ?_
    refine ag_icmp_ne (tgt := 35) (q := 33) dX2_bogBeside_30 rfl rfl ?_ ?_
    · refine ag_iinc_2 (q := 38) (d := (1)) dX2_bogBeside_35 rfl (Nat.le_of_ble_eq_true rfl) rfl (by decide) ?_
      refine ag_goto (q := 2) dX2_bogBeside_38 rfl ?_
      refine ag_kill_3 ?_
      exact ih x1 (x2 + (1)) σ
    refine ag_iconst (q := 34) (v := 1) dX2_bogBeside_33 rfl (by decide) ?_
    exact ag_zretK dX2_bogBeside_34 rfl (by decide) rfl
def J_X2_bogBeside (c : Nat) (a1 : Int32) (σ : Sg) : Option Int32 :=
  (J_X2_bogBeside_b2 c  FU a1 (0 : Int32) σ)
set_option maxHeartbeats 4000000 in
theorem A_X2_bogBeside (K : KT) {N : Nat} (hN : NC ≤ N) (c : Nat) (hc : isM c = true) (a1 : Int32) (σ : Sg) : AG K mX2_bogBeside N (fun a : Int32 => (some (.int a), N, R0, σ)) (J_X2_bogBeside c a1 σ) 0 [some (.ref c), some (.int a1), none, none] [] σ := by
  unfold J_X2_bogBeside
  refine ag_iconst (q := 1) (v := 0) dX2_bogBeside_0 rfl (by decide) ?_
  refine ag_istore_2 (q := 2) dX2_bogBeside_1 rfl (Nat.le_of_ble_eq_true rfl) rfl ?_
  exact A_X2_bogBeside_b2 K hN c hc  FU a1 (0 : Int32) σ
theorem C_X2_bogBeside {N : Nat} (hN : NC ≤ N) (c : Nat) (hc : isM c = true) (a1 : Int32) (σ : Sg) : ∀ r, J_X2_bogBeside c a1 σ = some r → AMc yX2_bogBeside mX2_bogBeside [.ref c, .int a1] N R0 σ (some (.int r), N, R0, σ) := fun r e => AMc.of (L := [some (.ref c), some (.int a1), none, none]) (by decide) rfl (fun _ => rfl) (fun _ => Nat.le_of_ble_eq_true rfl) (Nat.le_refl _) (fun K => A_X2_bogBeside K hN c hc a1 σ _ e (Nat.le_refl _))
def J_X2_wolfComes_b2 (c : Nat) : Nat → Int32 → Sg → Option (Unit × Sg)
  | 0, _, _ => none
  | k + 1, x1, σ =>
    (if (σ (lnd c) 3) ≤ x1 then (some ((), σ)) else (if (8 : Int32) ≤ x1 then (some ((), σ)) else (if inb x1 8 = true then (if (σ (c + 2) x1.toNatClampNeg) = (-4 : Int32) then (J_X2_wolfComes_b2 c  k (x1 + (1)) σ) else (if inb x1 8 = true then (bd1 (J_X2_bogBeside c (σ (c + 2) x1.toNatClampNeg) σ) fun r37 => (if r37 = 0 then (J_X2_wolfComes_b2 c  k (x1 + (1)) σ) else (if inb x1 8 = true then (some ((), (up σ (c + 2) x1.toNatClampNeg (-4 : Int32)))) else none))) else none)) else none)))
set_option maxHeartbeats 4000000 in
theorem A_X2_wolfComes_b2 (K : KT) {N : Nat} (hN : NC ≤ N) (c : Nat) (hc : isM c = true) : ∀ (k : Nat) (x1 : Int32) (σ : Sg), AG K mX2_wolfComes N (fun a : Unit × Sg => (none, N, R0, a.2)) (J_X2_wolfComes_b2 c  k x1 σ) 2 [some (.ref c), some (.int x1)] [] σ := by
  intro k
  induction k with
  | zero => intro x1 σ; exact ag_none
  | succ k ih =>
    intro x1 σ
    rw [J_X2_wolfComes_b2]
    refine ag_iload_1 (q := 3) dX2_wolfComes_2 rfl ?_
    refine ag_aload_0 (q := 4) dX2_wolfComes_3 rfl ?_
    refine ag_getR (q := 7) dX2_wolfComes_4 rfl fl2_28 (nlt (mlt hc) hN) (mS hc) rfl (mR0 hc) ?_
    refine ag_getI (q := 10) dX2_wolfComes_7 rfl fl2_43 (nlt (llt (lndL hc)) hN) (lS (lndL hc)) rfl ?_
    refine ag_icmp_ge (tgt := 58) (q := 13) dX2_wolfComes_10 rfl rfl ?_ ?_
    · exact ag_vret dX2_wolfComes_58 rfl rfl
    refine ag_iload_1 (q := 14) dX2_wolfComes_13 rfl ?_
    refine ag_bipush (q := 16) (v := 8) dX2_wolfComes_14 rfl (by decide) ?_
    refine ag_icmp_ge (tgt := 58) (q := 19) dX2_wolfComes_16 rfl rfl ?_ ?_
    · exact ag_vret dX2_wolfComes_58 rfl rfl
    refine ag_aload_0 (q := 20) dX2_wolfComes_19 rfl ?_
    refine ag_getR (q := 23) dX2_wolfComes_20 rfl fl2_15 (nlt (mlt hc) hN) (mS hc) rfl (mR2 hc) ?_
    refine ag_iload_1 (q := 24) dX2_wolfComes_23 rfl ?_
    refine ag_iald (q := 25) dX2_wolfComes_24 rfl (nlt (mlt2 hc) hN) (mA2 hc) ?_
    refine ag_bipush (q := 27) (v := -4) dX2_wolfComes_25 rfl (by decide) ?_
    refine ag_icmp_eq (tgt := 52) (q := 30) dX2_wolfComes_27 rfl rfl ?_ ?_
    · refine ag_iinc_1 (q := 55) (d := (1)) dX2_wolfComes_52 rfl (Nat.le_of_ble_eq_true rfl) rfl (by decide) ?_
      refine ag_goto (q := 2) dX2_wolfComes_55 rfl ?_
      exact ih (x1 + (1)) σ
    refine ag_aload_0 (q := 31) dX2_wolfComes_30 rfl ?_
    refine ag_aload_0 (q := 32) dX2_wolfComes_31 rfl ?_
    refine ag_getR (q := 35) dX2_wolfComes_32 rfl fl2_15 (nlt (mlt hc) hN) (mS hc) rfl (mR2 hc) ?_
    refine ag_iload_1 (q := 36) dX2_wolfComes_35 rfl ?_
    refine ag_iald (q := 37) dX2_wolfComes_36 rfl (nlt (mlt2 hc) hN) (mA2 hc) ?_
    refine ag_callV_pI (q := 40) (av := [.int _]) (rest := []) dX2_wolfComes_37 rfl lk2_133 (C_X2_bogBeside hN c hc (σ (c + 2) x1.toNatClampNeg) _) (by decide) (Nat.le_of_ble_eq_true rfl) (nlt (mlt hc) hN) (mS hc) (by decide) (fun _ => rfl) (Nat.le_of_ble_eq_true rfl) rfl (fun r37 e37 => ?_)
    refine ag_if_eq (tgt := 52) (q := 43) dX2_wolfComes_40 rfl rfl ?_ ?_
    · refine ag_iinc_1 (q := 55) (d := (1)) dX2_wolfComes_52 rfl (Nat.le_of_ble_eq_true rfl) rfl (by decide) ?_
      refine ag_goto (q := 2) dX2_wolfComes_55 rfl ?_
      exact ih (x1 + (1)) σ
    refine ag_aload_0 (q := 44) dX2_wolfComes_43 rfl ?_
    refine ag_getR (q := 47) dX2_wolfComes_44 rfl fl2_15 (nlt (mlt hc) hN) (mS hc) rfl (mR2 hc) ?_
    refine ag_iload_1 (q := 48) dX2_wolfComes_47 rfl ?_
    refine ag_bipush (q := 50) (v := -4) dX2_wolfComes_48 rfl (by decide) ?_
    refine ag_iast (q := 51) dX2_wolfComes_50 rfl (nlt (mlt2 hc) hN) (mA2 hc) ?_
    exact ag_vret dX2_wolfComes_51 rfl rfl
def J_X2_wolfComes (c : Nat) (σ : Sg) : Option (Unit × Sg) :=
  (J_X2_wolfComes_b2 c  FU (0 : Int32) σ)
set_option maxHeartbeats 4000000 in
theorem A_X2_wolfComes (K : KT) {N : Nat} (hN : NC ≤ N) (c : Nat) (hc : isM c = true) (σ : Sg) : AG K mX2_wolfComes N (fun a : Unit × Sg => (none, N, R0, a.2)) (J_X2_wolfComes c σ) 0 [some (.ref c), none] [] σ := by
  unfold J_X2_wolfComes
  refine ag_iconst (q := 1) (v := 0) dX2_wolfComes_0 rfl (by decide) ?_
  refine ag_istore_1 (q := 2) dX2_wolfComes_1 rfl (Nat.le_of_ble_eq_true rfl) rfl ?_
  exact A_X2_wolfComes_b2 K hN c hc  FU (0 : Int32) σ
theorem C_X2_wolfComes {N : Nat} (hN : NC ≤ N) (c : Nat) (hc : isM c = true) (σ : Sg) : ∀ r s', J_X2_wolfComes c σ = some (r, s') → AMc yX2_wolfComes mX2_wolfComes [.ref c] N R0 σ (none, N, R0, s') := fun r s' e => AMc.of (L := [some (.ref c), none]) (by decide) rfl (fun _ => rfl) (fun _ => Nat.le_of_ble_eq_true rfl) (Nat.le_refl _) (fun K => A_X2_wolfComes K hN c hc σ _ e (Nat.le_refl _))
theorem lkr0_99 (n : Nat) : LV RX0 99 yX0_stayingFrom (mX0_stayingFrom n) 4 0 := lk0_99
def J_X0_stayingFrom_b91  (rc : Int32 → Int32 → Int32 → Int32 → Sg → Option (Int64 × Sg)) (x1 : Int32) (x2 : Int32) (x3 : Int32) (x4 : Int32) (x5 : Nat) (x6 : Nat) (x7 : Int64) (σ : Sg) : Option (Int64 × Sg) :=
  (if x4 ≤ 0 then (some (x7, σ)) else (bd2 (J_X2_copyFrom x6 x5 σ) fun r100 s100 => (bd2 (J_X2_graze x6 s100) fun r105 s105 => (bd2 (J_X2_wolfComes x6 s105) fun r110 s110 => (bd2 (J_X2_beginNextDay x6 s110) fun r115 s115 => (bd2 (rc (x1 + (1 : Int32)) x2 x3 x4 s115) fun r131 s131 => (some ((x7 + ((x4.toInt64) * r131)), s131))))))))
set_option maxHeartbeats 4000000 in
theorem A_X0_stayingFrom_b91 (K : KT) {N : Nat} (hN : NC ≤ N)  (n : Nat) (rc : Int32 → Int32 → Int32 → Int32 → Sg → Option (Int64 × Sg)) (hrc : ∀ b0 b1 b2 b3 σ r s', rc b0 b1 b2 b3 σ = some (r, s') → AMc yX0_stayingFrom (mX0_stayingFrom n) [.ref 92, .int b0, .int b1, .int b2, .int b3] N R0 σ (some (.long r), N, R0, s')) (x1 : Int32) (x2 : Int32) (x3 : Int32) (x4 : Int32) (x5 : Nat) (hx5 : isM x5 = true) (x6 : Nat) (hx6 : isM x6 = true) (x7 : Int64) (σ : Sg) : AG K (mX0_stayingFrom (n + 1)) N (fun a : Int64 × Sg => (some (.long a.1), N, R0, a.2)) (J_X0_stayingFrom_b91  rc  x1 x2 x3 x4 x5 x6 x7 σ) 91 [some (.ref 92), some (.int x1), some (.int x2), some (.int x3), some (.int x4), some (.ref x5), some (.ref x6), some (.long x7), none] [] σ := by
  unfold J_X0_stayingFrom_b91
  refine ag_iload_4 (q := 93) dX0_stayingFrom_91 rfl ?_
  refine ag_if_le (tgt := 138) (q := 96) dX0_stayingFrom_93 rfl rfl ?_ ?_
  · refine ag_lload_7 (q := 140) dX0_stayingFrom_138 rfl ?_
    exact ag_lret dX0_stayingFrom_140 rfl rfl
  refine ag_aload_6 (q := 98) dX0_stayingFrom_96 rfl ?_
  refine ag_aload_5 (q := 100) dX0_stayingFrom_98 rfl ?_
  refine ag_callV_mU (q := 103) (av := [.ref _]) (rest := []) dX0_stayingFrom_100 rfl lk0_39 (C_X2_copyFrom hN x6 hx6 x5 hx5 _) (by show 1 + 1 ≤ 4 + (n + 1); omega) (Nat.le_of_ble_eq_true rfl) (nlt (mlt hx6) hN) (mS hx6) (by decide) (fun _ => rfl) (Nat.le_of_ble_eq_true rfl) rfl (fun r100 s100 e100 => ?_)
  refine ag_aload_6 (q := 105) dX0_stayingFrom_103 rfl ?_
  refine ag_callV_mU (q := 108) (av := []) (rest := []) dX0_stayingFrom_105 rfl lk0_106 (C_X2_graze hN x6 hx6 _) (by show 1 + 1 ≤ 4 + (n + 1); omega) (Nat.le_of_ble_eq_true rfl) (nlt (mlt hx6) hN) (mS hx6) (by decide) (fun _ => rfl) (Nat.le_of_ble_eq_true rfl) rfl (fun r105 s105 e105 => ?_)
  refine ag_aload_6 (q := 110) dX0_stayingFrom_108 rfl ?_
  refine ag_callV_mU (q := 113) (av := []) (rest := []) dX0_stayingFrom_110 rfl lk0_109 (C_X2_wolfComes hN x6 hx6 _) (by show 3 + 1 ≤ 4 + (n + 1); omega) (Nat.le_of_ble_eq_true rfl) (nlt (mlt hx6) hN) (mS hx6) (by decide) (fun _ => rfl) (Nat.le_of_ble_eq_true rfl) rfl (fun r110 s110 e110 => ?_)
  refine ag_aload_6 (q := 115) dX0_stayingFrom_113 rfl ?_
  refine ag_callV_mU (q := 118) (av := []) (rest := []) dX0_stayingFrom_115 rfl lk0_112 (C_X2_beginNextDay hN x6 hx6 _) (by show 2 + 1 ≤ 4 + (n + 1); omega) (Nat.le_of_ble_eq_true rfl) (nlt (mlt hx6) hN) (mS hx6) (by decide) (fun _ => rfl) (Nat.le_of_ble_eq_true rfl) rfl (fun r115 s115 e115 => ?_)
  refine ag_lload_7 (q := 120) dX0_stayingFrom_118 rfl ?_
  refine ag_iload_4 (q := 122) dX0_stayingFrom_120 rfl ?_
  refine ag_i2l (q := 123) dX0_stayingFrom_122 rfl ?_
  refine ag_aload_0 (q := 124) dX0_stayingFrom_123 rfl ?_
  refine ag_iload_1 (q := 125) dX0_stayingFrom_124 rfl ?_
  refine ag_iconst (q := 126) (v := 1) dX0_stayingFrom_125 rfl (by decide) ?_
  refine ag_iadd (q := 127) dX0_stayingFrom_126 rfl ?_
  refine ag_iload_2 (q := 128) dX0_stayingFrom_127 rfl ?_
  refine ag_iload_3 (q := 129) dX0_stayingFrom_128 rfl ?_
  refine ag_iload_4 (q := 131) dX0_stayingFrom_129 rfl ?_
  refine ag_callV_mL (q := 134) (av := [.int _, .int _, .int _, .int _]) (rest := [.long _, .long _]) dX0_stayingFrom_131 rfl (lkr0_99 n) (hrc _ _ _ _ _) (by show 4 + n + 1 ≤ 4 + (n + 1); omega) (Nat.le_of_ble_eq_true rfl) (Nat.lt_of_lt_of_le (by decide : 92 < NC) hN) (congrArg Prod.fst s_92) (by decide) (fun _ => rfl) (Nat.le_of_ble_eq_true rfl) rfl (fun r131 s131 e131 => ?_)
  refine ag_lmul (q := 135) dX0_stayingFrom_134 rfl ?_
  refine ag_ladd (q := 136) dX0_stayingFrom_135 rfl ?_
  refine ag_lstore_7 (q := 138) dX0_stayingFrom_136 rfl (Nat.le_of_ble_eq_true rfl) rfl ?_
  refine ag_lload_7 (q := 140) dX0_stayingFrom_138 rfl ?_
  exact ag_lret dX0_stayingFrom_140 rfl rfl
def J_X0_stayingFrom_body  (rc : Int32 → Int32 → Int32 → Int32 → Sg → Option (Int64 × Sg)) (a1 : Int32) (a2 : Int32) (a3 : Int32) (a4 : Int32) (σ : Sg) : Option (Int64 × Sg) :=
  (bd1 (J_X4_get 94 a1 σ) fun r5 => (bd1 (J_X2_isOff r5 a2 σ) fun r13 => (if r13 = 0 then (if a3 ≤ a1 then (some ((1 : Int64), σ)) else (if a1 < (8 : Int32) then (bd1 (J_X4_get 94 (a1 + (1 : Int32)) σ) fun r41 => (if (10 : Int32) ≤ a4 then (J_X0_stayingFrom_b91  rc  a1 a2 a3 a4 r5 r41 (0 : Int64) σ) else (bd2 (J_X2_copyFrom r41 r5 σ) fun r60 s60 => (bd2 (J_X2_passDay r41 s60) fun r65 s65 => (bd2 (rc (a1 + (1 : Int32)) a2 a3 a4 s65) fun r84 s84 => (J_X0_stayingFrom_b91  rc  a1 a2 a3 a4 r5 r41 ((0 : Int64) + ((((10 : Int32) - a4).toInt64) * r84)) s84)))))) else (some ((1 : Int64), σ)))) else (some ((0 : Int64), σ)))))
set_option maxHeartbeats 4000000 in
theorem A_X0_stayingFrom_body (K : KT) {N : Nat} (hN : NC ≤ N)  (n : Nat) (rc : Int32 → Int32 → Int32 → Int32 → Sg → Option (Int64 × Sg)) (hrc : ∀ b0 b1 b2 b3 σ r s', rc b0 b1 b2 b3 σ = some (r, s') → AMc yX0_stayingFrom (mX0_stayingFrom n) [.ref 92, .int b0, .int b1, .int b2, .int b3] N R0 σ (some (.long r), N, R0, s')) (a1 : Int32) (a2 : Int32) (a3 : Int32) (a4 : Int32) (σ : Sg) : AG K (mX0_stayingFrom (n + 1)) N (fun a : Int64 × Sg => (some (.long a.1), N, R0, a.2)) (J_X0_stayingFrom_body  rc a1 a2 a3 a4 σ) 0 [some (.ref 92), some (.int a1), some (.int a2), some (.int a3), some (.int a4), none, none, none, none] [] σ := by
  unfold J_X0_stayingFrom_body
  refine ag_aload_0 (q := 1) dX0_stayingFrom_0 rfl ?_
  refine ag_getR (q := 4) dX0_stayingFrom_1 rfl fl0_31 (Nat.lt_of_lt_of_le (by decide : 92 < NC) hN) (congrArg Prod.fst s_92) rfl r_92_1 ?_
  refine ag_iload_1 (q := 5) dX0_stayingFrom_4 rfl ?_
  refine ag_callV_pR (q := 8) (av := [.int _]) (rest := []) dX0_stayingFrom_5 rfl lk0_35 (C_X4_get hN 94 (by decide) a1 _) (by show 1 + 1 ≤ 4 + (n + 1); omega) (Nat.le_of_ble_eq_true rfl) (Nat.lt_of_lt_of_le (by decide : 94 < NC) hN) (congrArg Prod.fst s_94) (by decide) (fun _ => rfl) (Nat.le_of_ble_eq_true rfl) rfl (fun r5 e5 => ?_)
  refine ag_astore_5 (q := 10) dX0_stayingFrom_8 rfl (Nat.le_of_ble_eq_true rfl) rfl ?_
  refine ag_aload_5 (q := 12) dX0_stayingFrom_10 rfl ?_
  refine ag_iload_2 (q := 13) dX0_stayingFrom_12 rfl ?_
  refine ag_callV_pI (q := 16) (av := [.int _]) (rest := []) dX0_stayingFrom_13 rfl lk0_103 (C_X2_isOff hN r5 (G_X4_get (by decide) e5) a2 _) (by show 2 + 1 ≤ 4 + (n + 1); omega) (Nat.le_of_ble_eq_true rfl) (nlt (mlt (G_X4_get (by decide) e5)) hN) (mS (G_X4_get (by decide) e5)) (by decide) (fun _ => rfl) (Nat.le_of_ble_eq_true rfl) rfl (fun r13 e13 => ?_)
  refine ag_if_eq (tgt := 21) (q := 19) dX0_stayingFrom_16 rfl rfl ?_ ?_
  · refine ag_iload_1 (q := 22) dX0_stayingFrom_21 rfl ?_
    refine ag_iload_3 (q := 23) dX0_stayingFrom_22 rfl ?_
    refine ag_icmp_ge (tgt := 32) (q := 26) dX0_stayingFrom_23 rfl rfl ?_ ?_
    · refine ag_lconst (q := 33) (v := 1) dX0_stayingFrom_32 rfl (by decide) ?_
      exact ag_lret dX0_stayingFrom_33 rfl rfl
    refine ag_iload_1 (q := 27) dX0_stayingFrom_26 rfl ?_
    refine ag_bipush (q := 29) (v := 8) dX0_stayingFrom_27 rfl (by decide) ?_
    refine ag_icmp_lt (tgt := 34) (q := 32) dX0_stayingFrom_29 rfl rfl ?_ ?_
    · refine ag_aload_0 (q := 35) dX0_stayingFrom_34 rfl ?_
      refine ag_getR (q := 38) dX0_stayingFrom_35 rfl fl0_31 (Nat.lt_of_lt_of_le (by decide : 92 < NC) hN) (congrArg Prod.fst s_92) rfl r_92_1 ?_
      refine ag_iload_1 (q := 39) dX0_stayingFrom_38 rfl ?_
      refine ag_iconst (q := 40) (v := 1) dX0_stayingFrom_39 rfl (by decide) ?_
      refine ag_iadd (q := 41) dX0_stayingFrom_40 rfl ?_
      refine ag_callV_pR (q := 44) (av := [.int _]) (rest := []) dX0_stayingFrom_41 rfl lk0_35 (C_X4_get hN 94 (by decide) (a1 + (1 : Int32)) _) (by show 1 + 1 ≤ 4 + (n + 1); omega) (Nat.le_of_ble_eq_true rfl) (Nat.lt_of_lt_of_le (by decide : 94 < NC) hN) (congrArg Prod.fst s_94) (by decide) (fun _ => rfl) (Nat.le_of_ble_eq_true rfl) rfl (fun r41 e41 => ?_)
      refine ag_astore_6 (q := 46) dX0_stayingFrom_44 rfl (Nat.le_of_ble_eq_true rfl) rfl ?_
      refine ag_lconst (q := 47) (v := 0) dX0_stayingFrom_46 rfl (by decide) ?_
      refine ag_lstore_7 (q := 49) dX0_stayingFrom_47 rfl (Nat.le_of_ble_eq_true rfl) rfl ?_
      refine ag_iload_4 (q := 51) dX0_stayingFrom_49 rfl ?_
      refine ag_bipush (q := 53) (v := 10) dX0_stayingFrom_51 rfl (by decide) ?_
      refine ag_icmp_ge (tgt := 91) (q := 56) dX0_stayingFrom_53 rfl rfl ?_ ?_
      · exact A_X0_stayingFrom_b91 K hN  n rc hrc  a1 a2 a3 a4 r5 (G_X4_get (by decide) e5) r41 (G_X4_get (by decide) e41) (0 : Int64) σ
      refine ag_aload_6 (q := 58) dX0_stayingFrom_56 rfl ?_
      refine ag_aload_5 (q := 60) dX0_stayingFrom_58 rfl ?_
      refine ag_callV_mU (q := 63) (av := [.ref _]) (rest := []) dX0_stayingFrom_60 rfl lk0_39 (C_X2_copyFrom hN r41 (G_X4_get (by decide) e41) r5 (G_X4_get (by decide) e5) _) (by show 1 + 1 ≤ 4 + (n + 1); omega) (Nat.le_of_ble_eq_true rfl) (nlt (mlt (G_X4_get (by decide) e41)) hN) (mS (G_X4_get (by decide) e41)) (by decide) (fun _ => rfl) (Nat.le_of_ble_eq_true rfl) rfl (fun r60 s60 e60 => ?_)
      refine ag_aload_6 (q := 65) dX0_stayingFrom_63 rfl ?_
      refine ag_callV_mU (q := 68) (av := []) (rest := []) dX0_stayingFrom_65 rfl lk0_49 (C_X2_passDay hN r41 (G_X4_get (by decide) e41) _) (by show 3 + 1 ≤ 4 + (n + 1); omega) (Nat.le_of_ble_eq_true rfl) (nlt (mlt (G_X4_get (by decide) e41)) hN) (mS (G_X4_get (by decide) e41)) (by decide) (fun _ => rfl) (Nat.le_of_ble_eq_true rfl) rfl (fun r65 s65 e65 => ?_)
      refine ag_lload_7 (q := 70) dX0_stayingFrom_68 rfl ?_
      refine ag_bipush (q := 72) (v := 10) dX0_stayingFrom_70 rfl (by decide) ?_
      refine ag_iload_4 (q := 74) dX0_stayingFrom_72 rfl ?_
      refine ag_isub (q := 75) dX0_stayingFrom_74 rfl ?_
      refine ag_i2l (q := 76) dX0_stayingFrom_75 rfl ?_
      refine ag_aload_0 (q := 77) dX0_stayingFrom_76 rfl ?_
      refine ag_iload_1 (q := 78) dX0_stayingFrom_77 rfl ?_
      refine ag_iconst (q := 79) (v := 1) dX0_stayingFrom_78 rfl (by decide) ?_
      refine ag_iadd (q := 80) dX0_stayingFrom_79 rfl ?_
      refine ag_iload_2 (q := 81) dX0_stayingFrom_80 rfl ?_
      refine ag_iload_3 (q := 82) dX0_stayingFrom_81 rfl ?_
      refine ag_iload_4 (q := 84) dX0_stayingFrom_82 rfl ?_
      refine ag_callV_mL (q := 87) (av := [.int _, .int _, .int _, .int _]) (rest := [.long _, .long _]) dX0_stayingFrom_84 rfl (lkr0_99 n) (hrc _ _ _ _ _) (by show 4 + n + 1 ≤ 4 + (n + 1); omega) (Nat.le_of_ble_eq_true rfl) (Nat.lt_of_lt_of_le (by decide : 92 < NC) hN) (congrArg Prod.fst s_92) (by decide) (fun _ => rfl) (Nat.le_of_ble_eq_true rfl) rfl (fun r84 s84 e84 => ?_)
      refine ag_lmul (q := 88) dX0_stayingFrom_87 rfl ?_
      refine ag_ladd (q := 89) dX0_stayingFrom_88 rfl ?_
      refine ag_lstore_7 (q := 91) dX0_stayingFrom_89 rfl (Nat.le_of_ble_eq_true rfl) rfl ?_
      exact A_X0_stayingFrom_b91 K hN  n rc hrc  a1 a2 a3 a4 r5 (G_X4_get (by decide) e5) r41 (G_X4_get (by decide) e41) ((0 : Int64) + ((((10 : Int32) - a4).toInt64) * r84)) s84
    refine ag_lconst (q := 33) (v := 1) dX0_stayingFrom_32 rfl (by decide) ?_
    exact ag_lret dX0_stayingFrom_33 rfl rfl
  refine ag_lconst (q := 20) (v := 0) dX0_stayingFrom_19 rfl (by decide) ?_
  exact ag_lret dX0_stayingFrom_20 rfl rfl
def J_X0_stayingFrom : Nat → Int32 → Int32 → Int32 → Int32 → Sg → Option (Int64 × Sg)
  | 0 => fun _ _ _ _ _ => none
  | n + 1 => fun a1 a2 a3 a4 σ => J_X0_stayingFrom_body (J_X0_stayingFrom n) a1 a2 a3 a4 σ
theorem C_X0_stayingFrom {N : Nat} (hN : NC ≤ N) : ∀ (n : Nat) (a1 : Int32) (a2 : Int32) (a3 : Int32) (a4 : Int32) (σ : Sg), ∀ r s', J_X0_stayingFrom n a1 a2 a3 a4 σ = some (r, s') → AMc yX0_stayingFrom (mX0_stayingFrom n) [.ref 92, .int a1, .int a2, .int a3, .int a4] N R0 σ (some (.long r), N, R0, s') := by
  intro n
  induction n with
  | zero => intro a1 a2 a3 a4 σ r s' e; cases e
  | succ n ih => intro a1 a2 a3 a4 σ r s' e; exact AMc.of (L := [some (.ref 92), some (.int a1), some (.int a2), some (.int a3), some (.int a4), none, none, none, none]) (by decide) rfl (fun _ => rfl) (fun _ => Nat.le_of_ble_eq_true rfl) (Nat.le_refl _) (fun K => A_X0_stayingFrom_body K hN n (J_X0_stayingFrom n) ih a1 a2 a3 a4 σ _ e (Nat.le_refl _))
