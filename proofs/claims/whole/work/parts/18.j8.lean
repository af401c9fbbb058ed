def J_X8_summer_b72  (x2 : Int32) (x3 : Int32) (w0 : Int32) (σ : Sg) : Option (Int32 × Sg) :=
  (if 0 ≤ x2 then (if x3 ≤ w0 then (some ((-4 : Int32), σ)) else (if inb w0 6 = true then (some ((σ 163 w0.toNatClampNeg), σ)) else none)) else (some (x3, σ)))
set_option maxHeartbeats 4000000 in
theorem A_X8_summer_b72 (K : KT) {N : Nat} (hN : NT ≤ N)  (x2 : Int32) (x3 : Int32) (w0 : Int32) (σ : Sg) : AG K mX8_summer N (fun a : Int32 × Sg => (some (.int a.1), N, R0, a.2)) (J_X8_summer_b72   x2 x3 w0 σ) 72 [some (.ref 141), none, some (.int x2), some (.int x3), none] [.int w0] σ := by
  unfold J_X8_summer_b72
  refine ag_istore_4 (q := 74) dX8_summer_72 rfl (Nat.le_of_ble_eq_true rfl) rfl ?_
  refine ag_iload_2 (q := 75) dX8_summer_74 rfl ?_
  refine ag_if_ge (tgt := 82) (q := 78) dX8_summer_75 rfl rfl ?_ ?_
  · refine ag_iload_4 (q := 84) dX8_summer_82 rfl ?_
    refine ag_iload_3 (q := 85) dX8_summer_84 rfl ?_
    refine ag_icmp_ge (tgt := 98) (q := 88) dX8_summer_85 rfl rfl ?_ ?_
    · refine ag_bipush (q := 100) (v := -4) dX8_summer_98 rfl (by decide) ?_
      exact ag_iret dX8_summer_100 rfl rfl
    refine ag_aload_0 (q := 89) dX8_summer_88 rfl ?_
    refine ag_getR (q := 92) dX8_summer_89 rfl fl8_73 (Nat.lt_of_lt_of_le (by decide : 141 < NT) hN) (congrArg Prod.fst s_141) rfl r_141_39 ?_
    refine ag_iload_4 (q := 94) dX8_summer_92 rfl ?_
    refine ag_iald (q := 95) dX8_summer_94 rfl (Nat.lt_of_lt_of_le (by decide : 163 < NT) hN) s_163 ?_
    refine ag_goto (q := 100) dX8_summer_95 rfl ?_
    exact ag_iret dX8_summer_100 rfl rfl
  refine ag_iload_3 (q := 79) dX8_summer_78 rfl ?_
  refine ag_goto (q := 100) dX8_summer_79 rfl ?_
  exact ag_iret dX8_summer_100 rfl rfl
def J_X8_summer_b28  : Nat → Int32 → Int32 → Int32 → Sg → Option (Int32 × Sg)
  | 0, _, _, _, _ => none
  | k + 1, x1, x2, x3, σ =>
    (if (5 : Int32) < x3 then (some ((-4 : Int32), σ)) else (bd2 (J_X8_isSummer x1 x3 σ) fun r36 s36 => (if r36 = 0 then (J_X8_summer_b28   k x1 x2 (x3 + (1)) s36) else (if x2 ≤ (2 : Int32) then (if (rmI (s36 146 0) (2 : Int32)) = x1 then (J_X8_summer_b72   x2 x3 (((2 : Int32) * x2) + (0 : Int32)) s36) else (J_X8_summer_b72   x2 x3 (((2 : Int32) * x2) + (1 : Int32)) s36)) else (J_X8_summer_b72   x2 x3 x3 s36)))))
set_option maxHeartbeats 4000000 in
theorem A_X8_summer_b28 (K : KT) {N : Nat} (hN : NT ≤ N)  : ∀ (k : Nat) (x1 : Int32) (x2 : Int32) (x3 : Int32) (σ : Sg), AG K mX8_summer N (fun a : Int32 × Sg => (some (.int a.1), N, R0, a.2)) (J_X8_summer_b28   k x1 x2 x3 σ) 28 [some (.ref 141), some (.int x1), some (.int x2), some (.int x3), none] [] σ := by
  intro k
  induction k with
  | zero => intro x1 x2 x3 σ; exact ag_none
  | succ k ih =>
    intro x1 x2 x3 σ
    rw [J_X8_summer_b28]
    refine ag_iload_3 (q := 29) dX8_summer_28 rfl ?_
    refine ag_iconst (q := 30) (v := 5) dX8_summer_29 rfl (by decide) ?_
    refine ag_icmp_gt (tgt := 107) (q := 33) dX8_summer_30 rfl rfl ?_ ?_
    · refine ag_bipush (q := 109) (v := -4) dX8_summer_107 rfl (by decide) ?_
      exact ag_iret dX8_summer_109 rfl rfl
    refine ag_aload_0 (q := 34) dX8_summer_33 rfl ?_
    refine ag_iload_1 (q := 35) dX8_summer_34 rfl ?_
    refine ag_iload_3 (q := 36) dX8_summer_35 rfl ?_
    refine ag_callV_mI (q := 39) (av := [.int _, .int _]) (rest := []) dX8_summer_36 rfl lk8_270 (C_X8_isSummer hN x1 x3 _) (by decide) (Nat.le_of_ble_eq_true rfl) (Nat.lt_of_lt_of_le (by decide : 141 < NT) hN) (congrArg Prod.fst s_141) (by decide) (fun _ => rfl) (Nat.le_of_ble_eq_true rfl) rfl (fun r36 s36 e36 => ?_)
    refine ag_if_eq (tgt := 101) (q := 42) dX8_summer_39 rfl rfl ?_ ?_
    · refine ag_iinc_3 (q := 104) (d := (1)) dX8_summer_101 rfl (Nat.le_of_ble_eq_true rfl) rfl (by decide) ?_
      refine ag_goto (q := 28) dX8_summer_104 rfl ?_
      exact ih x1 x2 (x3 + (1)) s36
    refine ag_iload_2 (q := 43) dX8_summer_42 rfl ?_
    refine ag_iconst (q := 44) (v := 2) dX8_summer_43 rfl (by decide) ?_
    refine ag_icmp_le (tgt := 51) (q := 47) dX8_summer_44 rfl rfl ?_ ?_
    · refine ag_iconst (q := 52) (v := 2) dX8_summer_51 rfl (by decide) ?_
      refine ag_iload_2 (q := 53) dX8_summer_52 rfl ?_
      refine ag_imul (q := 54) dX8_summer_53 rfl ?_
      refine ag_aload_0 (q := 55) dX8_summer_54 rfl ?_
      refine ag_getR (q := 58) dX8_summer_55 rfl fl8_22 (Nat.lt_of_lt_of_le (by decide : 141 < NT) hN) (congrArg Prod.fst s_141) rfl r_141_10 ?_
      refine ag_iconst (q := 59) (v := 0) dX8_summer_58 rfl (by decide) ?_
      refine ag_ialdK (q := 60) (k := 0) dX8_summer_59 rfl (Nat.lt_of_lt_of_le (by decide : 146 < NT) hN) s_146 (by decide) (by decide) ?_
      refine ag_iconst (q := 61) (v := 2) dX8_summer_60 rfl (by decide) ?_
      refine ag_iremK (q := 62) dX8_summer_61 rfl (by decide) ?_
      refine ag_iload_1 (q := 63) dX8_summer_62 rfl ?_
      refine ag_icmp_ne (tgt := 70) (q := 66) dX8_summer_63 rfl rfl ?_ ?_
      · refine ag_iconst (q := 71) (v := 1) dX8_summer_70 rfl (by decide) ?_
        refine ag_iadd (q := 72) dX8_summer_71 rfl ?_
        refine ag_kill_1 ?_
        exact A_X8_summer_b72 K hN   x2 x3 (((2 : Int32) * x2) + (1 : Int32)) s36
      refine ag_iconst (q := 67) (v := 0) dX8_summer_66 rfl (by decide) ?_
      refine ag_goto (q := 71) dX8_summer_67 rfl ?_
      refine ag_iadd (q := 72) dX8_summer_71 rfl ?_
      refine ag_kill_1 ?_
      exact A_X8_summer_b72 K hN   x2 x3 (((2 : Int32) * x2) + (0 : Int32)) s36
    refine ag_iload_3 (q := 48) dX8_summer_47 rfl ?_
    refine ag_goto (q := 72) dX8_summer_48 rfl ?_
    refine ag_kill_1 ?_
    exact A_X8_summer_b72 K hN   x2 x3 x3 s36
def J_X8_summer (a1 : Int32) (a2 : Int32) (σ : Sg) : Option (Int32 × Sg) :=
  (bd1 (J_X8_in a1 (0 : Int32) (1 : Int32) σ) fun r3 => (if r3 = 0 then (some ((-1 : Int32), σ)) else (if (-1 : Int32) ≤ a2 then (if 0 ≤ (σ 141 6) then (J_X8_summer_b28   FU a1 a2 (0 : Int32) σ) else (some ((-2 : Int32), σ))) else (some ((-1 : Int32), σ)))))
set_option maxHeartbeats 4000000 in
theorem A_X8_summer (K : KT) {N : Nat} (hN : NT ≤ N) (a1 : Int32) (a2 : Int32) (σ : Sg) : AG K mX8_summer N (fun a : Int32 × Sg => (some (.int a.1), N, R0, a.2)) (J_X8_summer a1 a2 σ) 0 [some (.ref 141), some (.int a1), some (.int a2), none, none] [] σ := by
  unfold J_X8_summer
  refine ag_iload_1 (q := 1) dX8_summer_0 rfl ?_
  refine ag_iconst (q := 2) (v := 0) dX8_summer_1 rfl (by decide) ?_
  refine ag_iconst (q := 3) (v := 1) dX8_summer_2 rfl (by decide) ?_
  refine ag_callS_pI (q := 6) (av := [.int _, .int _, .int _]) (rest := []) dX8_summer_3 rfl lk8_115 (C_X8_in hN a1 (0 : Int32) (1 : Int32) _) (by decide) (Nat.le_of_ble_eq_true rfl) (fun _ => rfl) (Nat.le_of_ble_eq_true rfl) rfl (fun r3 e3 => ?_)
  refine ag_if_eq (tgt := 14) (q := 9) dX8_summer_6 rfl rfl ?_ ?_
  · refine ag_iconst (q := 15) (v := -1) dX8_summer_14 rfl (by decide) ?_
    exact ag_iret dX8_summer_15 rfl rfl
  refine ag_iload_2 (q := 10) dX8_summer_9 rfl ?_
  refine ag_iconst (q := 11) (v := -1) dX8_summer_10 rfl (by decide) ?_
  refine ag_icmp_ge (tgt := 16) (q := 14) dX8_summer_11 rfl rfl ?_ ?_
  · refine ag_aload_0 (q := 17) dX8_summer_16 rfl ?_
    refine ag_getI (q := 20) dX8_summer_17 rfl fl8_166 (Nat.lt_of_lt_of_le (by decide : 141 < NT) hN) (congrArg Prod.fst s_141) rfl ?_
    refine ag_if_ge (tgt := 26) (q := 23) dX8_summer_20 rfl rfl ?_ ?_
    · refine ag_iconst (q := 27) (v := 0) dX8_summer_26 rfl (by decide) ?_
      refine ag_istore_3 (q := 28) dX8_summer_27 rfl (Nat.le_of_ble_eq_true rfl) rfl ?_
      exact A_X8_summer_b28 K hN   FU a1 a2 (0 : Int32) σ
    refine ag_bipush (q := 25) (v := -2) dX8_summer_23 rfl (by decide) ?_
    exact ag_iret dX8_summer_25 rfl rfl
  refine ag_iconst (q := 15) (v := -1) dX8_summer_14 rfl (by decide) ?_
  exact ag_iret dX8_summer_15 rfl rfl
theorem C_X8_summer {N : Nat} (hN : NT ≤ N) (a1 : Int32) (a2 : Int32) (σ : Sg) : ∀ r s', J_X8_summer a1 a2 σ = some (r, s') → AMc yX8_summer mX8_summer [.ref 141, .int a1, .int a2] N R0 σ (some (.int r), N, R0, s') := fun r s' e => AMc.of (L := [some (.ref 141), some (.int a1), some (.int a2), none, none]) (by decide) rfl (fun _ => rfl) (fun _ => Nat.le_of_ble_eq_true rfl) (Nat.le_refl _) (fun K => A_X8_summer K hN a1 a2 σ _ e)
def J_X8_isFirstOf (a1 : Int32) (σ : Sg) : Option (Int32 × Sg) :=
  (bd2 (J_X8_copies 157 (0 : Int32) 162 ((54 : Int32) * a1) (54 : Int32) σ) fun r15 s15 => (bd2 (J_X8_nextDrive (-1 : Int32) s15) fun r20 s20 => (if inb a1 6 = true then (if r20 = (s20 163 a1.toNatClampNeg) then (some ((1 : Int32), s20)) else (some ((0 : Int32), s20))) else none)))
set_option maxHeartbeats 4000000 in
theorem A_X8_isFirstOf (K : KT) {N : Nat} (hN : NT ≤ N) (a1 : Int32) (σ : Sg) : AG K mX8_isFirstOf N (fun a : Int32 × Sg => (some (.int a.1), N, R0, a.2)) (J_X8_isFirstOf a1 σ) 0 [some (.ref 141), some (.int a1)] [] σ := by
  unfold J_X8_isFirstOf
  refine ag_aload_0 (q := 1) dX8_isFirstOf_0 rfl ?_
  refine ag_getR (q := 4) dX8_isFirstOf_1 rfl fl8_55 (Nat.lt_of_lt_of_le (by decide : 141 < NT) hN) (congrArg Prod.fst s_141) rfl r_141_31 ?_
  refine ag_iconst (q := 5) (v := 0) dX8_isFirstOf_4 rfl (by decide) ?_
  refine ag_aload_0 (q := 6) dX8_isFirstOf_5 rfl ?_
  refine ag_getR (q := 9) dX8_isFirstOf_6 rfl fl8_70 (Nat.lt_of_lt_of_le (by decide : 141 < NT) hN) (congrArg Prod.fst s_141) rfl r_141_38 ?_
  refine ag_bipush (q := 11) (v := 54) dX8_isFirstOf_9 rfl (by decide) ?_
  refine ag_iload_1 (q := 12) dX8_isFirstOf_11 rfl ?_
  refine ag_imul (q := 13) dX8_isFirstOf_12 rfl ?_
  refine ag_bipush (q := 15) (v := 54) dX8_isFirstOf_13 rfl (by decide) ?_
  refine ag_callS_mU (q := 18) (av := [.ref _, .int _, .ref _, .int _, .int _]) (rest := []) dX8_isFirstOf_15 rfl lk8_162 (C_X8_copies hN 157 (by decide) (0 : Int32) 162 (by decide) ((54 : Int32) * a1) (54 : Int32) _) (by decide) (Nat.le_of_ble_eq_true rfl) (fun _ => rfl) (Nat.le_of_ble_eq_true rfl) rfl (fun r15 s15 e15 => ?_)
  refine ag_aload_0 (q := 19) dX8_isFirstOf_18 rfl ?_
  refine ag_iconst (q := 20) (v := -1) dX8_isFirstOf_19 rfl (by decide) ?_
  refine ag_callV_mI (q := 23) (av := [.int _]) (rest := []) dX8_isFirstOf_20 rfl lk8_264 (C_X8_nextDrive hN (-1 : Int32) _) (by decide) (Nat.le_of_ble_eq_true rfl) (Nat.lt_of_lt_of_le (by decide : 141 < NT) hN) (congrArg Prod.fst s_141) (by decide) (fun _ => rfl) (Nat.le_of_ble_eq_true rfl) rfl (fun r20 s20 e20 => ?_)
  refine ag_aload_0 (q := 24) dX8_isFirstOf_23 rfl ?_
  refine ag_getR (q := 27) dX8_isFirstOf_24 rfl fl8_73 (Nat.lt_of_lt_of_le (by decide : 141 < NT) hN) (congrArg Prod.fst s_141) rfl r_141_39 ?_
  refine ag_iload_1 (q := 28) dX8_isFirstOf_27 rfl ?_
  refine ag_iald (q := 29) dX8_isFirstOf_28 rfl (Nat.lt_of_lt_of_le (by decide : 163 < NT) hN) s_163 ?_
  refine ag_icmp_ne (tgt := 36) (q := 32) dX8_isFirstOf_29 rfl rfl ?_ ?_
  · refine ag_iconst (q := 37) (v := 0) dX8_isFirstOf_36 rfl (by decide) ?_
    exact ag_zretK dX8_isFirstOf_37 rfl (by decide) rfl
  refine ag_iconst (q := 33) (v := 1) dX8_isFirstOf_32 rfl (by decide) ?_
  refine ag_goto (q := 37) dX8_isFirstOf_33 rfl ?_
  exact ag_zretK dX8_isFirstOf_37 rfl (by decide) rfl
theorem C_X8_isFirstOf {N : Nat} (hN : NT ≤ N) (a1 : Int32) (σ : Sg) : ∀ r s', J_X8_isFirstOf a1 σ = some (r, s') → AMc yX8_isFirstOf mX8_isFirstOf [.ref 141, .int a1] N R0 σ (some (.int r), N, R0, s') := fun r s' e => AMc.of (L := [some (.ref 141), some (.int a1)]) (by decide) rfl (fun _ => rfl) (fun _ => Nat.le_of_ble_eq_true rfl) (Nat.le_refl _) (fun K => A_X8_isFirstOf K hN a1 σ _ e)
def J_X8_plays_b267  (y27 : Int32 → Int32 → Int32 → Sg → Option (Int32 × Sg)) (x1 : Int32) (x2 : Int32) (x3 : Int32) (x8 : Int32) (w0 : Int32) (w1 : Int32) (σ : Sg) : Option (Int32 × Sg) :=
  (if inb w1 6 = true then (if x8 = 0 then (y27 x1 x2 x3 (up σ 164 w1.toNatClampNeg w0)) else (if x2 = 0 then (y27 x1 x2 ((up σ 164 w1.toNatClampNeg w0) 163 0) (up σ 164 w1.toNatClampNeg w0)) else (y27 x1 x2 x3 (up σ 164 w1.toNatClampNeg w0)))) else none)
set_option maxHeartbeats 4000000 in
theorem A_X8_plays_b267 (K : KT) {N : Nat} (hN : NT ≤ N)  (y27 : Int32 → Int32 → Int32 → Sg → Option (Int32 × Sg)) (hy27 : ∀ (x1 : Int32) (x2 : Int32) (x3 : Int32) (σ : Sg), AG K mX8_plays N (fun a : Int32 × Sg => (some (.int a.1), N, R0, a.2)) (y27 x1 x2 x3 σ) 27 [some (.ref 141), some (.int x1), some (.int x2), some (.int x3), none, none, none, none, none] [] σ) (x1 : Int32) (x2 : Int32) (x3 : Int32) (x8 : Int32) (w0 : Int32) (w1 : Int32) (σ : Sg) : AG K mX8_plays N (fun a : Int32 × Sg => (some (.int a.1), N, R0, a.2)) (J_X8_plays_b267  y27 x1 x2 x3 x8 w0 w1 σ) 267 [some (.ref 141), some (.int x1), some (.int x2), some (.int x3), none, none, none, none, some (.int x8)] [.int w0, .int w1, .ref 164] σ := by
  unfold J_X8_plays_b267
  refine ag_iast (q := 268) dX8_plays_267 rfl (Nat.lt_of_lt_of_le (by decide : 164 < NT) hN) s_164 ?_
  refine ag_iload_8 (q := 270) dX8_plays_268 rfl ?_
  refine ag_if_eq (tgt := 286) (q := 273) dX8_plays_270 rfl rfl ?_ ?_
  · refine ag_iload_3 (q := 287) dX8_plays_286 rfl ?_
    refine ag_istore_3 (q := 288) dX8_plays_287 rfl (Nat.le_of_ble_eq_true rfl) rfl ?_
    refine ag_goto (q := 27) dX8_plays_288 rfl ?_
    refine ag_kill_8 ?_
    exact hy27 x1 x2 x3 (up σ 164 w1.toNatClampNeg w0)
  refine ag_iload_2 (q := 274) dX8_plays_273 rfl ?_
  refine ag_if_ne (tgt := 286) (q := 277) dX8_plays_274 rfl rfl ?_ ?_
  · refine ag_iload_3 (q := 287) dX8_plays_286 rfl ?_
    refine ag_istore_3 (q := 288) dX8_plays_287 rfl (Nat.le_of_ble_eq_true rfl) rfl ?_
    refine ag_goto (q := 27) dX8_plays_288 rfl ?_
    refine ag_kill_8 ?_
    exact hy27 x1 x2 x3 (up σ 164 w1.toNatClampNeg w0)
  refine ag_aload_0 (q := 278) dX8_plays_277 rfl ?_
  refine ag_getR (q := 281) dX8_plays_278 rfl fl8_73 (Nat.lt_of_lt_of_le (by decide : 141 < NT) hN) (congrArg Prod.fst s_141) rfl r_141_39 ?_
  refine ag_iconst (q := 282) (v := 0) dX8_plays_281 rfl (by decide) ?_
  refine ag_ialdK (q := 283) (k := 0) dX8_plays_282 rfl (Nat.lt_of_lt_of_le (by decide : 163 < NT) hN) s_163 (by decide) (by decide) ?_
  refine ag_goto (q := 287) dX8_plays_283 rfl ?_
  refine ag_istore_3 (q := 288) dX8_plays_287 rfl (Nat.le_of_ble_eq_true rfl) rfl ?_
  refine ag_goto (q := 27) dX8_plays_288 rfl ?_
  refine ag_kill_8 ?_
  exact hy27 x1 x2 ((up σ 164 w1.toNatClampNeg w0) 163 0) (up σ 164 w1.toNatClampNeg w0)
def J_X8_plays_b239  (y27 : Int32 → Int32 → Int32 → Sg → Option (Int32 × Sg)) (x1 : Int32) (x2 : Int32) (x3 : Int32) (x6 : Int32) (σ : Sg) : Option (Int32 × Sg) :=
  (J_X8_plays_b267  y27 x1 x2 x3 (1 : Int32) x6 x2 σ)
set_option maxHeartbeats 4000000 in
theorem A_X8_plays_b239 (K : KT) {N : Nat} (hN : NT ≤ N)  (y27 : Int32 → Int32 → Int32 → Sg → Option (Int32 × Sg)) (hy27 : ∀ (x1 : Int32) (x2 : Int32) (x3 : Int32) (σ : Sg), AG K mX8_plays N (fun a : Int32 × Sg => (some (.int a.1), N, R0, a.2)) (y27 x1 x2 x3 σ) 27 [some (.ref 141), some (.int x1), some (.int x2), some (.int x3), none, none, none, none, none] [] σ) (x1 : Int32) (x2 : Int32) (x3 : Int32) (x6 : Int32) (σ : Sg) : AG K mX8_plays N (fun a : Int32 × Sg => (some (.int a.1), N, R0, a.2)) (J_X8_plays_b239  y27 x1 x2 x3 x6 σ) 239 [some (.ref 141), some (.int x1), some (.int x2), some (.int x3), none, none, some (.int x6), none, none] [] σ := by
  unfold J_X8_plays_b239
  refine ag_iconst (q := 240) (v := 1) dX8_plays_239 rfl (by decide) ?_
  refine ag_goto (q := 244) dX8_plays_240 rfl ?_
  refine ag_istore_8 (q := 246) dX8_plays_244 rfl (Nat.le_of_ble_eq_true rfl) rfl ?_
  refine ag_aload_0 (q := 247) dX8_plays_246 rfl ?_
  refine ag_getR (q := 250) dX8_plays_247 rfl fl8_76 (Nat.lt_of_lt_of_le (by decide : 141 < NT) hN) (congrArg Prod.fst s_141) rfl r_141_40 ?_
  refine ag_iload_2 (q := 251) dX8_plays_250 rfl ?_
  refine ag_iload_8 (q := 253) dX8_plays_251 rfl ?_
  refine ag_if_eq_f (tgt := 261) (q := 256) dX8_plays_253 rfl rfl (by decide) ?_
  refine ag_iload_6 (q := 258) dX8_plays_256 rfl ?_
  refine ag_goto (q := 267) dX8_plays_258 rfl ?_
  refine ag_kill_6 ?_
  exact A_X8_plays_b267 K hN  y27 hy27 x1 x2 x3 (1 : Int32) x6 x2 σ
def J_X8_plays_b243  (y27 : Int32 → Int32 → Int32 → Sg → Option (Int32 × Sg)) (x1 : Int32) (x2 : Int32) (x3 : Int32) (x6 : Int32) (σ : Sg) : Option (Int32 × Sg) :=
  (if inb x2 6 = true then (J_X8_plays_b267  y27 x1 x2 x3 (0 : Int32) (σ 164 x2.toNatClampNeg) x2 σ) else none)
set_option maxHeartbeats 4000000 in
theorem A_X8_plays_b243 (K : KT) {N : Nat} (hN : NT ≤ N)  (y27 : Int32 → Int32 → Int32 → Sg → Option (Int32 × Sg)) (hy27 : ∀ (x1 : Int32) (x2 : Int32) (x3 : Int32) (σ : Sg), AG K mX8_plays N (fun a : Int32 × Sg => (some (.int a.1), N, R0, a.2)) (y27 x1 x2 x3 σ) 27 [some (.ref 141), some (.int x1), some (.int x2), some (.int x3), none, none, none, none, none] [] σ) (x1 : Int32) (x2 : Int32) (x3 : Int32) (x6 : Int32) (σ : Sg) : AG K mX8_plays N (fun a : Int32 × Sg => (some (.int a.1), N, R0, a.2)) (J_X8_plays_b243  y27 x1 x2 x3 x6 σ) 243 [some (.ref 141), some (.int x1), some (.int x2), some (.int x3), none, none, some (.int x6), none, none] [] σ := by
  unfold J_X8_plays_b243
  refine ag_iconst (q := 244) (v := 0) dX8_plays_243 rfl (by decide) ?_
  refine ag_istore_8 (q := 246) dX8_plays_244 rfl (Nat.le_of_ble_eq_true rfl) rfl ?_
  refine ag_aload_0 (q := 247) dX8_plays_246 rfl ?_
  refine ag_getR (q := 250) dX8_plays_247 rfl fl8_76 (Nat.lt_of_lt_of_le (by decide : 141 < NT) hN) (congrArg Prod.fst s_141) rfl r_141_40 ?_
  refine ag_iload_2 (q := 251) dX8_plays_250 rfl ?_
  refine ag_iload_8 (q := 253) dX8_plays_251 rfl ?_
  refine ag_if_eq_t (q := 261) dX8_plays_253 rfl (by decide) ?_
  refine ag_aload_0 (q := 262) dX8_plays_261 rfl ?_
  refine ag_getR (q := 265) dX8_plays_262 rfl fl8_76 (Nat.lt_of_lt_of_le (by decide : 141 < NT) hN) (congrArg Prod.fst s_141) rfl r_141_40 ?_
  refine ag_iload_2 (q := 266) dX8_plays_265 rfl ?_
  refine ag_iald (q := 267) dX8_plays_266 rfl (Nat.lt_of_lt_of_le (by decide : 164 < NT) hN) s_164 ?_
  refine ag_kill_6 ?_
  exact A_X8_plays_b267 K hN  y27 hy27 x1 x2 x3 (0 : Int32) (σ 164 x2.toNatClampNeg) x2 σ
def J_X8_plays_b167  (y27 : Int32 → Int32 → Int32 → Sg → Option (Int32 × Sg)) (x1 : Int32) (x2 : Int32) (x3 : Int32) (w0 : Int32) (σ : Sg) : Option (Int32 × Sg) :=
  (if x2 = 0 then (some (w0, (up σ 163 5 x3))) else (bd2 (J_X8_isFirstOf (x2 + (-1)) σ) fun r188 s188 => (if r188 = 0 then (if inb (((54 : Int32) * (x2 + (-1))) + (0 : Int32)) 324 = true then (if (rmI (s188 162 (((54 : Int32) * (x2 + (-1))) + (0 : Int32)).toNatClampNeg) (2 : Int32)) = 0 then (if inb (x2 + (-1)) 6 = true then (if w0 ≤ (s188 164 (x2 + (-1)).toNatClampNeg) then (J_X8_plays_b243  y27 x1 (x2 + (-1)) x3 w0 s188) else (J_X8_plays_b239  y27 x1 (x2 + (-1)) x3 w0 s188)) else none) else (if inb (x2 + (-1)) 6 = true then (if (s188 164 (x2 + (-1)).toNatClampNeg) ≤ w0 then (J_X8_plays_b243  y27 x1 (x2 + (-1)) x3 w0 s188) else (J_X8_plays_b239  y27 x1 (x2 + (-1)) x3 w0 s188)) else none)) else none) else (J_X8_plays_b239  y27 x1 (x2 + (-1)) x3 w0 s188))))
set_option maxHeartbeats 4000000 in
theorem A_X8_plays_b167 (K : KT) {N : Nat} (hN : NT ≤ N)  (y27 : Int32 → Int32 → Int32 → Sg → Option (Int32 × Sg)) (hy27 : ∀ (x1 : Int32) (x2 : Int32) (x3 : Int32) (σ : Sg), AG K mX8_plays N (fun a : Int32 × Sg => (some (.int a.1), N, R0, a.2)) (y27 x1 x2 x3 σ) 27 [some (.ref 141), some (.int x1), some (.int x2), some (.int x3), none, none, none, none, none] [] σ) (x1 : Int32) (x2 : Int32) (x3 : Int32) (w0 : Int32) (σ : Sg) : AG K mX8_plays N (fun a : Int32 × Sg => (some (.int a.1), N, R0, a.2)) (J_X8_plays_b167  y27 x1 x2 x3 w0 σ) 167 [some (.ref 141), some (.int x1), some (.int x2), some (.int x3), none, none, none, none, none] [.int w0] σ := by
  unfold J_X8_plays_b167
  refine ag_istore_6 (q := 169) dX8_plays_167 rfl (Nat.le_of_ble_eq_true rfl) rfl ?_
  refine ag_iload_2 (q := 170) dX8_plays_169 rfl ?_
  refine ag_if_ne (tgt := 183) (q := 173) dX8_plays_170 rfl rfl ?_ ?_
  · refine ag_iinc_2 (q := 186) (d := (-1)) dX8_plays_183 rfl (Nat.le_of_ble_eq_true rfl) rfl (by decide) ?_
    refine ag_aload_0 (q := 187) dX8_plays_186 rfl ?_
    refine ag_iload_2 (q := 188) dX8_plays_187 rfl ?_
    refine ag_callV_mI (q := 191) (av := [.int _]) (rest := []) dX8_plays_188 rfl lk8_276 (C_X8_isFirstOf hN (x2 + (-1)) _) (by decide) (Nat.le_of_ble_eq_true rfl) (Nat.lt_of_lt_of_le (by decide : 141 < NT) hN) (congrArg Prod.fst s_141) (by decide) (fun _ => rfl) (Nat.le_of_ble_eq_true rfl) rfl (fun r188 s188 e188 => ?_)
    refine ag_istore_7 (q := 193) dX8_plays_191 rfl (Nat.le_of_ble_eq_true rfl) rfl ?_
    refine ag_iload_7 (q := 195) dX8_plays_193 rfl ?_
    refine ag_if_ne (tgt := 239) (q := 198) dX8_plays_195 rfl rfl ?_ ?_
    · refine ag_kill_7 ?_
      exact A_X8_plays_b239 K hN  y27 hy27 x1 (x2 + (-1)) x3 w0 s188
    refine ag_aload_0 (q := 199) dX8_plays_198 rfl ?_
    refine ag_getR (q := 202) dX8_plays_199 rfl fl8_70 (Nat.lt_of_lt_of_le (by decide : 141 < NT) hN) (congrArg Prod.fst s_141) rfl r_141_38 ?_
    refine ag_bipush (q := 204) (v := 54) dX8_plays_202 rfl (by decide) ?_
    refine ag_iload_2 (q := 205) dX8_plays_204 rfl ?_
    refine ag_imul (q := 206) dX8_plays_205 rfl ?_
    refine ag_iconst (q := 207) (v := 0) dX8_plays_206 rfl (by decide) ?_
    refine ag_iadd (q := 208) dX8_plays_207 rfl ?_
    refine ag_iald (q := 209) dX8_plays_208 rfl (Nat.lt_of_lt_of_le (by decide : 162 < NT) hN) s_162 ?_
    refine ag_iconst (q := 210) (v := 2) dX8_plays_209 rfl (by decide) ?_
    refine ag_iremK (q := 211) dX8_plays_210 rfl (by decide) ?_
    refine ag_if_ne (tgt := 228) (q := 214) dX8_plays_211 rfl rfl ?_ ?_
    · refine ag_iload_6 (q := 230) dX8_plays_228 rfl ?_
      refine ag_aload_0 (q := 231) dX8_plays_230 rfl ?_
      refine ag_getR (q := 234) dX8_plays_231 rfl fl8_76 (Nat.lt_of_lt_of_le (by decide : 141 < NT) hN) (congrArg Prod.fst s_141) rfl r_141_40 ?_
      refine ag_iload_2 (q := 235) dX8_plays_234 rfl ?_
      refine ag_iald (q := 236) dX8_plays_235 rfl (Nat.lt_of_lt_of_le (by decide : 164 < NT) hN) s_164 ?_
      refine ag_icmp_ge (tgt := 243) (q := 239) dX8_plays_236 rfl rfl ?_ ?_
      · refine ag_kill_7 ?_
        exact A_X8_plays_b243 K hN  y27 hy27 x1 (x2 + (-1)) x3 w0 s188
      refine ag_kill_7 ?_
      exact A_X8_plays_b239 K hN  y27 hy27 x1 (x2 + (-1)) x3 w0 s188
    refine ag_iload_6 (q := 216) dX8_plays_214 rfl ?_
    refine ag_aload_0 (q := 217) dX8_plays_216 rfl ?_
    refine ag_getR (q := 220) dX8_plays_217 rfl fl8_76 (Nat.lt_of_lt_of_le (by decide : 141 < NT) hN) (congrArg Prod.fst s_141) rfl r_141_40 ?_
    refine ag_iload_2 (q := 221) dX8_plays_220 rfl ?_
    refine ag_iald (q := 222) dX8_plays_221 rfl (Nat.lt_of_lt_of_le (by decide : 164 < NT) hN) s_164 ?_
    refine ag_icmp_le (tgt := 243) (q := 225) dX8_plays_222 rfl rfl ?_ ?_
    · refine ag_kill_7 ?_
      exact A_X8_plays_b243 K hN  y27 hy27 x1 (x2 + (-1)) x3 w0 s188
    refine ag_goto (q := 239) dX8_plays_225 rfl ?_
    refine ag_kill_7 ?_
    exact A_X8_plays_b239 K hN  y27 hy27 x1 (x2 + (-1)) x3 w0 s188
  refine ag_aload_0 (q := 174) dX8_plays_173 rfl ?_
  refine ag_getR (q := 177) dX8_plays_174 rfl fl8_73 (Nat.lt_of_lt_of_le (by decide : 141 < NT) hN) (congrArg Prod.fst s_141) rfl r_141_39 ?_
  refine ag_iconst (q := 178) (v := 5) dX8_plays_177 rfl (by decide) ?_
  refine ag_iload_3 (q := 179) dX8_plays_178 rfl ?_
  refine ag_iastK (q := 180) (k := 5) dX8_plays_179 rfl (Nat.lt_of_lt_of_le (by decide : 163 < NT) hN) s_163 (by decide) (by decide) ?_
  refine ag_iload_6 (q := 182) dX8_plays_180 rfl ?_
  exact ag_iret dX8_plays_182 rfl rfl
def J_X8_plays_b95  (y27 : Int32 → Int32 → Int32 → Sg → Option (Int32 × Sg)) (x1 : Int32) (x2 : Int32) (x3 : Int32) (x4 : Int32) (w0 : Int32) (σ : Sg) : Option (Int32 × Sg) :=
  (if w0 = (100 : Int32) then (if x4 = 0 then (if inb x2 6 = true then (J_X8_plays_b167  y27 x1 x2 x3 (σ 164 x2.toNatClampNeg) σ) else none) else (bd1 (J_X8_worth  σ) fun r155 => (J_X8_plays_b167  y27 x1 x2 x3 r155 σ))) else (if inb x2 6 = true then (bd2 (J_X8_goesBy w0 (up σ 163 x2.toNatClampNeg w0)) fun r115 s115 => (bd2 (J_X8_copies 162 ((54 : Int32) * (x2 + (1))) 157 (0 : Int32) (54 : Int32) s115) fun r136 s136 => (if inb (x2 + (1)) 6 = true then (y27 x1 (x2 + (1)) x3 (up s136 163 (x2 + (1)).toNatClampNeg (-1 : Int32))) else none))) else none))
set_option maxHeartbeats 4000000 in
theorem A_X8_plays_b95 (K : KT) {N : Nat} (hN : NT ≤ N)  (y27 : Int32 → Int32 → Int32 → Sg → Option (Int32 × Sg)) (hy27 : ∀ (x1 : Int32) (x2 : Int32) (x3 : Int32) (σ : Sg), AG K mX8_plays N (fun a : Int32 × Sg => (some (.int a.1), N, R0, a.2)) (y27 x1 x2 x3 σ) 27 [some (.ref 141), some (.int x1), some (.int x2), some (.int x3), none, none, none, none, none] [] σ) (x1 : Int32) (x2 : Int32) (x3 : Int32) (x4 : Int32) (w0 : Int32) (σ : Sg) : AG K mX8_plays N (fun a : Int32 × Sg => (some (.int a.1), N, R0, a.2)) (J_X8_plays_b95  y27 x1 x2 x3 x4 w0 σ) 95 [some (.ref 141), some (.int x1), some (.int x2), some (.int x3), some (.int x4), none, none, none, none] [.int w0] σ := by
  unfold J_X8_plays_b95
  refine ag_istore_5 (q := 97) dX8_plays_95 rfl (Nat.le_of_ble_eq_true rfl) rfl ?_
  refine ag_iload_5 (q := 99) dX8_plays_97 rfl ?_
  refine ag_bipush (q := 101) (v := 100) dX8_plays_99 rfl (by decide) ?_
  refine ag_icmp_eq (tgt := 149) (q := 104) dX8_plays_101 rfl rfl ?_ ?_
  · refine ag_iload_4 (q := 151) dX8_plays_149 rfl ?_
    refine ag_if_eq (tgt := 161) (q := 154) dX8_plays_151 rfl rfl ?_ ?_
    · refine ag_aload_0 (q := 162) dX8_plays_161 rfl ?_
      refine ag_getR (q := 165) dX8_plays_162 rfl fl8_76 (Nat.lt_of_lt_of_le (by decide : 141 < NT) hN) (congrArg Prod.fst s_141) rfl r_141_40 ?_
      refine ag_iload_2 (q := 166) dX8_plays_165 rfl ?_
      refine ag_iald (q := 167) dX8_plays_166 rfl (Nat.lt_of_lt_of_le (by decide : 164 < NT) hN) s_164 ?_
      refine ag_kill_4 ?_
      refine ag_kill_5 ?_
      exact A_X8_plays_b167 K hN  y27 hy27 x1 x2 x3 (σ 164 x2.toNatClampNeg) σ
    refine ag_aload_0 (q := 155) dX8_plays_154 rfl ?_
    refine ag_callV_pI (q := 158) (av := []) (rest := []) dX8_plays_155 rfl lk8_273 (C_X8_worth hN  _) (by decide) (Nat.le_of_ble_eq_true rfl) (Nat.lt_of_lt_of_le (by decide : 141 < NT) hN) (congrArg Prod.fst s_141) (by decide) (fun _ => rfl) (Nat.le_of_ble_eq_true rfl) rfl (fun r155 e155 => ?_)
    refine ag_goto (q := 167) dX8_plays_158 rfl ?_
    refine ag_kill_4 ?_
    refine ag_kill_5 ?_
    exact A_X8_plays_b167 K hN  y27 hy27 x1 x2 x3 r155 σ
  refine ag_aload_0 (q := 105) dX8_plays_104 rfl ?_
  refine ag_getR (q := 108) dX8_plays_105 rfl fl8_73 (Nat.lt_of_lt_of_le (by decide : 141 < NT) hN) (congrArg Prod.fst s_141) rfl r_141_39 ?_
  refine ag_iload_2 (q := 109) dX8_plays_108 rfl ?_
  refine ag_iload_5 (q := 111) dX8_plays_109 rfl ?_
  refine ag_iast (q := 112) dX8_plays_111 rfl (Nat.lt_of_lt_of_le (by decide : 163 < NT) hN) s_163 ?_
  refine ag_aload_0 (q := 113) dX8_plays_112 rfl ?_
  refine ag_iload_5 (q := 115) dX8_plays_113 rfl ?_
  refine ag_callV_mU (q := 118) (av := [.int _]) (rest := []) dX8_plays_115 rfl lk8_240 (C_X8_goesBy hN w0 _) (by decide) (Nat.le_of_ble_eq_true rfl) (Nat.lt_of_lt_of_le (by decide : 141 < NT) hN) (congrArg Prod.fst s_141) (by decide) (fun _ => rfl) (Nat.le_of_ble_eq_true rfl) rfl (fun r115 s115 e115 => ?_)
  refine ag_iinc_2 (q := 121) (d := (1)) dX8_plays_118 rfl (Nat.le_of_ble_eq_true rfl) rfl (by decide) ?_
  refine ag_aload_0 (q := 122) dX8_plays_121 rfl ?_
  refine ag_getR (q := 125) dX8_plays_122 rfl fl8_70 (Nat.lt_of_lt_of_le (by decide : 141 < NT) hN) (congrArg Prod.fst s_141) rfl r_141_38 ?_
  refine ag_bipush (q := 127) (v := 54) dX8_plays_125 rfl (by decide) ?_
  refine ag_iload_2 (q := 128) dX8_plays_127 rfl ?_
  refine ag_imul (q := 129) dX8_plays_128 rfl ?_
  refine ag_aload_0 (q := 130) dX8_plays_129 rfl ?_
  refine ag_getR (q := 133) dX8_plays_130 rfl fl8_55 (Nat.lt_of_lt_of_le (by decide : 141 < NT) hN) (congrArg Prod.fst s_141) rfl r_141_31 ?_
  refine ag_iconst (q := 134) (v := 0) dX8_plays_133 rfl (by decide) ?_
  refine ag_bipush (q := 136) (v := 54) dX8_plays_134 rfl (by decide) ?_
  refine ag_callS_mU (q := 139) (av := [.ref _, .int _, .ref _, .int _, .int _]) (rest := []) dX8_plays_136 rfl lk8_162 (C_X8_copies hN 162 (by decide) ((54 : Int32) * (x2 + (1))) 157 (by decide) (0 : Int32) (54 : Int32) _) (by decide) (Nat.le_of_ble_eq_true rfl) (fun _ => rfl) (Nat.le_of_ble_eq_true rfl) rfl (fun r136 s136 e136 => ?_)
  refine ag_aload_0 (q := 140) dX8_plays_139 rfl ?_
  refine ag_getR (q := 143) dX8_plays_140 rfl fl8_73 (Nat.lt_of_lt_of_le (by decide : 141 < NT) hN) (congrArg Prod.fst s_141) rfl r_141_39 ?_
  refine ag_iload_2 (q := 144) dX8_plays_143 rfl ?_
  refine ag_iconst (q := 145) (v := -1) dX8_plays_144 rfl (by decide) ?_
  refine ag_iast (q := 146) dX8_plays_145 rfl (Nat.lt_of_lt_of_le (by decide : 163 < NT) hN) s_163 ?_
  refine ag_goto (q := 288) dX8_plays_146 rfl ?_
  refine ag_goto (q := 27) dX8_plays_288 rfl ?_
  refine ag_kill_4 ?_
  refine ag_kill_5 ?_
  exact hy27 x1 (x2 + (1)) x3 (up s136 163 (x2 + (1)).toNatClampNeg (-1 : Int32))
def J_X8_plays_b62  (y27 : Int32 → Int32 → Int32 → Sg → Option (Int32 × Sg)) (x1 : Int32) (x2 : Int32) (x3 : Int32) (w0 : Int32) (σ : Sg) : Option (Int32 × Sg) :=
  (if w0 = 0 then (if inb x2 6 = true then (if (σ 163 x2.toNatClampNeg) = (99 : Int32) then (J_X8_plays_b95  y27 x1 x2 x3 w0 (100 : Int32) σ) else (if inb x2 6 = true then (bd2 (J_X8_nextDrive (σ 163 x2.toNatClampNeg) σ) fun r92 s92 => (J_X8_plays_b95  y27 x1 x2 x3 w0 r92 s92)) else none)) else none) else (J_X8_plays_b95  y27 x1 x2 x3 w0 (100 : Int32) σ))
set_option maxHeartbeats 4000000 in
theorem A_X8_plays_b62 (K : KT) {N : Nat} (hN : NT ≤ N)  (y27 : Int32 → Int32 → Int32 → Sg → Option (Int32 × Sg)) (hy27 : ∀ (x1 : Int32) (x2 : Int32) (x3 : Int32) (σ : Sg), AG K mX8_plays N (fun a : Int32 × Sg => (some (.int a.1), N, R0, a.2)) (y27 x1 x2 x3 σ) 27 [some (.ref 141), some (.int x1), some (.int x2), some (.int x3), none, none, none, none, none] [] σ) (x1 : Int32) (x2 : Int32) (x3 : Int32) (w0 : Int32) (σ : Sg) : AG K mX8_plays N (fun a : Int32 × Sg => (some (.int a.1), N, R0, a.2)) (J_X8_plays_b62  y27 x1 x2 x3 w0 σ) 62 [some (.ref 141), some (.int x1), some (.int x2), some (.int x3), none, none, none, none, none] [.int w0] σ := by
  unfold J_X8_plays_b62
  refine ag_istore_4 (q := 64) dX8_plays_62 rfl (Nat.le_of_ble_eq_true rfl) rfl ?_
  refine ag_iload_4 (q := 66) dX8_plays_64 rfl ?_
  refine ag_if_ne (tgt := 80) (q := 69) dX8_plays_66 rfl rfl ?_ ?_
  · refine ag_bipush (q := 82) (v := 100) dX8_plays_80 rfl (by decide) ?_
    refine ag_goto (q := 95) dX8_plays_82 rfl ?_
    exact A_X8_plays_b95 K hN  y27 hy27 x1 x2 x3 w0 (100 : Int32) σ
  refine ag_aload_0 (q := 70) dX8_plays_69 rfl ?_
  refine ag_getR (q := 73) dX8_plays_70 rfl fl8_73 (Nat.lt_of_lt_of_le (by decide : 141 < NT) hN) (congrArg Prod.fst s_141) rfl r_141_39 ?_
  refine ag_iload_2 (q := 74) dX8_plays_73 rfl ?_
  refine ag_iald (q := 75) dX8_plays_74 rfl (Nat.lt_of_lt_of_le (by decide : 163 < NT) hN) s_163 ?_
  refine ag_bipush (q := 77) (v := 99) dX8_plays_75 rfl (by decide) ?_
  refine ag_icmp_ne (tgt := 85) (q := 80) dX8_plays_77 rfl rfl ?_ ?_
  · refine ag_aload_0 (q := 86) dX8_plays_85 rfl ?_
    refine ag_aload_0 (q := 87) dX8_plays_86 rfl ?_
    refine ag_getR (q := 90) dX8_plays_87 rfl fl8_73 (Nat.lt_of_lt_of_le (by decide : 141 < NT) hN) (congrArg Prod.fst s_141) rfl r_141_39 ?_
    refine ag_iload_2 (q := 91) dX8_plays_90 rfl ?_
    refine ag_iald (q := 92) dX8_plays_91 rfl (Nat.lt_of_lt_of_le (by decide : 163 < NT) hN) s_163 ?_
    refine ag_callV_mI (q := 95) (av := [.int _]) (rest := []) dX8_plays_92 rfl lk8_264 (C_X8_nextDrive hN (σ 163 x2.toNatClampNeg) _) (by decide) (Nat.le_of_ble_eq_true rfl) (Nat.lt_of_lt_of_le (by decide : 141 < NT) hN) (congrArg Prod.fst s_141) (by decide) (fun _ => rfl) (Nat.le_of_ble_eq_true rfl) rfl (fun r92 s92 e92 => ?_)
    exact A_X8_plays_b95 K hN  y27 hy27 x1 x2 x3 w0 r92 s92
  refine ag_bipush (q := 82) (v := 100) dX8_plays_80 rfl (by decide) ?_
  refine ag_goto (q := 95) dX8_plays_82 rfl ?_
  exact A_X8_plays_b95 K hN  y27 hy27 x1 x2 x3 w0 (100 : Int32) σ
def J_X8_plays_b27  : Nat → Int32 → Int32 → Int32 → Sg → Option (Int32 × Sg)
  | 0, _, _, _, _ => none
  | k + 1, x1, x2, x3, σ =>
    (bd2 (J_X8_copies 157 (0 : Int32) 162 ((54 : Int32) * x2) (54 : Int32) σ) fun r42 s42 => (if x2 = x1 then (J_X8_plays_b62  (fun x1 x2 x3 σ => J_X8_plays_b27   k x1 x2 x3 σ) x1 x2 x3 (1 : Int32) s42) else (bd1 (J_X8_lost  s42) fun r51 => (if r51 = 0 then (J_X8_plays_b62  (fun x1 x2 x3 σ => J_X8_plays_b27   k x1 x2 x3 σ) x1 x2 x3 (0 : Int32) s42) else (J_X8_plays_b62  (fun x1 x2 x3 σ => J_X8_plays_b27   k x1 x2 x3 σ) x1 x2 x3 (1 : Int32) s42)))))
set_option maxHeartbeats 4000000 in
theorem A_X8_plays_b27 (K : KT) {N : Nat} (hN : NT ≤ N)  : ∀ (k : Nat) (x1 : Int32) (x2 : Int32) (x3 : Int32) (σ : Sg), AG K mX8_plays N (fun a : Int32 × Sg => (some (.int a.1), N, R0, a.2)) (J_X8_plays_b27   k x1 x2 x3 σ) 27 [some (.ref 141), some (.int x1), some (.int x2), some (.int x3), none, none, none, none, none] [] σ := by
  intro k
  induction k with
  | zero => intro x1 x2 x3 σ; exact ag_none
  | succ k ih =>
    intro x1 x2 x3 σ
    rw [J_X8_plays_b27]
    refine ag_aload_0 (q := 28) dX8_plays_27 rfl ?_
    refine ag_getR (q := 31) dX8_plays_28 rfl fl8_55 (Nat.lt_of_lt_of_le (by decide : 141 < NT) hN) (congrArg Prod.fst s_141) rfl r_141_31 ?_
    refine ag_iconst (q := 32) (v := 0) dX8_plays_31 rfl (by decide) ?_
    refine ag_aload_0 (q := 33) dX8_plays_32 rfl ?_
    refine ag_getR (q := 36) dX8_plays_33 rfl fl8_70 (Nat.lt_of_lt_of_le (by decide : 141 < NT) hN) (congrArg Prod.fst s_141) rfl r_141_38 ?_
    refine ag_bipush (q := 38) (v := 54) dX8_plays_36 rfl (by decide) ?_
    refine ag_iload_2 (q := 39) dX8_plays_38 rfl ?_
    refine ag_imul (q := 40) dX8_plays_39 rfl ?_
    refine ag_bipush (q := 42) (v := 54) dX8_plays_40 rfl (by decide) ?_
    refine ag_callS_mU (q := 45) (av := [.ref _, .int _, .ref _, .int _, .int _]) (rest := []) dX8_plays_42 rfl lk8_162 (C_X8_copies hN 157 (by decide) (0 : Int32) 162 (by decide) ((54 : Int32) * x2) (54 : Int32) _) (by decide) (Nat.le_of_ble_eq_true rfl) (fun _ => rfl) (Nat.le_of_ble_eq_true rfl) rfl (fun r42 s42 e42 => ?_)
    refine ag_iload_2 (q := 46) dX8_plays_45 rfl ?_
    refine ag_iload_1 (q := 47) dX8_plays_46 rfl ?_
    refine ag_icmp_eq (tgt := 57) (q := 50) dX8_plays_47 rfl rfl ?_ ?_
    · refine ag_iconst (q := 58) (v := 1) dX8_plays_57 rfl (by decide) ?_
      refine ag_goto (q := 62) dX8_plays_58 rfl ?_
      exact A_X8_plays_b62 K hN  (fun x1 x2 x3 σ => J_X8_plays_b27   k x1 x2 x3 σ) (fun x1 x2 x3 σ => ih x1 x2 x3 σ) x1 x2 x3 (1 : Int32) s42
    refine ag_aload_0 (q := 51) dX8_plays_50 rfl ?_
    refine ag_callV_pI (q := 54) (av := []) (rest := []) dX8_plays_51 rfl lk8_222 (C_X8_lost hN  _) (by decide) (Nat.le_of_ble_eq_true rfl) (Nat.lt_of_lt_of_le (by decide : 141 < NT) hN) (congrArg Prod.fst s_141) (by decide) (fun _ => rfl) (Nat.le_of_ble_eq_true rfl) rfl (fun r51 e51 => ?_)
    refine ag_if_eq (tgt := 61) (q := 57) dX8_plays_54 rfl rfl ?_ ?_
    · refine ag_iconst (q := 62) (v := 0) dX8_plays_61 rfl (by decide) ?_
      exact A_X8_plays_b62 K hN  (fun x1 x2 x3 σ => J_X8_plays_b27   k x1 x2 x3 σ) (fun x1 x2 x3 σ => ih x1 x2 x3 σ) x1 x2 x3 (0 : Int32) s42
    refine ag_iconst (q := 58) (v := 1) dX8_plays_57 rfl (by decide) ?_
    refine ag_goto (q := 62) dX8_plays_58 rfl ?_
    exact A_X8_plays_b62 K hN  (fun x1 x2 x3 σ => J_X8_plays_b27   k x1 x2 x3 σ) (fun x1 x2 x3 σ => ih x1 x2 x3 σ) x1 x2 x3 (1 : Int32) s42
def J_X8_plays (a1 : Int32) (σ : Sg) : Option (Int32 × Sg) :=
  (bd2 (J_X8_copies 162 (0 : Int32) 146 (0 : Int32) (54 : Int32) σ) fun r17 s17 => (J_X8_plays_b27   FU a1 (0 : Int32) (99 : Int32) (up s17 163 0 (-1 : Int32))))
set_option maxHeartbeats 4000000 in
theorem A_X8_plays (K : KT) {N : Nat} (hN : NT ≤ N) (a1 : Int32) (σ : Sg) : AG K mX8_plays N (fun a : Int32 × Sg => (some (.int a.1), N, R0, a.2)) (J_X8_plays a1 σ) 0 [some (.ref 141), some (.int a1), none, none, none, none, none, none, none] [] σ := by
  unfold J_X8_plays
  refine ag_iconst (q := 1) (v := 0) dX8_plays_0 rfl (by decide) ?_
  refine ag_istore_2 (q := 2) dX8_plays_1 rfl (Nat.le_of_ble_eq_true rfl) rfl ?_
  refine ag_bipush (q := 4) (v := 99) dX8_plays_2 rfl (by decide) ?_
  refine ag_istore_3 (q := 5) dX8_plays_4 rfl (Nat.le_of_ble_eq_true rfl) rfl ?_
  refine ag_aload_0 (q := 6) dX8_plays_5 rfl ?_
  refine ag_getR (q := 9) dX8_plays_6 rfl fl8_70 (Nat.lt_of_lt_of_le (by decide : 141 < NT) hN) (congrArg Prod.fst s_141) rfl r_141_38 ?_
  refine ag_iconst (q := 10) (v := 0) dX8_plays_9 rfl (by decide) ?_
  refine ag_aload_0 (q := 11) dX8_plays_10 rfl ?_
  refine ag_getR (q := 14) dX8_plays_11 rfl fl8_22 (Nat.lt_of_lt_of_le (by decide : 141 < NT) hN) (congrArg Prod.fst s_141) rfl r_141_10 ?_
  refine ag_iconst (q := 15) (v := 0) dX8_plays_14 rfl (by decide) ?_
  refine ag_bipush (q := 17) (v := 54) dX8_plays_15 rfl (by decide) ?_
  refine ag_callS_mU (q := 20) (av := [.ref _, .int _, .ref _, .int _, .int _]) (rest := []) dX8_plays_17 rfl lk8_162 (C_X8_copies hN 162 (by decide) (0 : Int32) 146 (by decide) (0 : Int32) (54 : Int32) _) (by decide) (Nat.le_of_ble_eq_true rfl) (fun _ => rfl) (Nat.le_of_ble_eq_true rfl) rfl (fun r17 s17 e17 => ?_)
  refine ag_aload_0 (q := 21) dX8_plays_20 rfl ?_
  refine ag_getR (q := 24) dX8_plays_21 rfl fl8_73 (Nat.lt_of_lt_of_le (by decide : 141 < NT) hN) (congrArg Prod.fst s_141) rfl r_141_39 ?_
  refine ag_iconst (q := 25) (v := 0) dX8_plays_24 rfl (by decide) ?_
  refine ag_iconst (q := 26) (v := -1) dX8_plays_25 rfl (by decide) ?_
  refine ag_iastK (q := 27) (k := 0) dX8_plays_26 rfl (Nat.lt_of_lt_of_le (by decide : 163 < NT) hN) s_163 (by decide) (by decide) ?_
  exact A_X8_plays_b27 K hN   FU a1 (0 : Int32) (99 : Int32) (up s17 163 0 (-1 : Int32))
theorem C_X8_plays {N : Nat} (hN : NT ≤ N) (a1 : Int32) (σ : Sg) : ∀ r s', J_X8_plays a1 σ = some (r, s') → AMc yX8_plays mX8_plays [.ref 141, .int a1] N R0 σ (some (.int r), N, R0, s') := fun r s' e => AMc.of (L := [some (.ref 141), some (.int a1), none, none, none, none, none, none, none]) (by decide) rfl (fun _ => rfl) (fun _ => Nat.le_of_ble_eq_true rfl) (Nat.le_refl _) (fun K => A_X8_plays K hN a1 σ _ e)
def J_X8_game (a1 : Int32) (a2 : Int32) (σ : Sg) : Option (Int32 × Sg) :=
  (bd1 (J_X8_in a1 (1 : Int32) (3 : Int32) σ) fun r3 => (if r3 = 0 then (some ((-1 : Int32), σ)) else (bd1 (J_X8_in a2 (0 : Int32) (1 : Int32) σ) fun r12 => (if r12 = 0 then (some ((-1 : Int32), σ)) else (bd2 (J_X8_asItIs  σ) fun r21 s21 => (bd1 (J_X8_lost  s21) fun r25 => (if r25 = 0 then (bd2 (J_X8_plays a1 s21) fun r36 s36 => (if a2 = 0 then (some (((100 : Int32) + r36), s36)) else (some ((s36 163 5), s36)))) else (some ((-2 : Int32), s21)))))))))
set_option maxHeartbeats 4000000 in
theorem A_X8_game (K : KT) {N : Nat} (hN : NT ≤ N) (a1 : Int32) (a2 : Int32) (σ : Sg) : AG K mX8_game N (fun a : Int32 × Sg => (some (.int a.1), N, R0, a.2)) (J_X8_game a1 a2 σ) 0 [some (.ref 141), some (.int a1), some (.int a2), none] [] σ := by
  unfold J_X8_game
  refine ag_iload_1 (q := 1) dX8_game_0 rfl ?_
  refine ag_iconst (q := 2) (v := 1) dX8_game_1 rfl (by decide) ?_
  refine ag_iconst (q := 3) (v := 3) dX8_game_2 rfl (by decide) ?_
  refine ag_callS_pI (q := 6) (av := [.int _, .int _, .int _]) (rest := []) dX8_game_3 rfl lk8_115 (C_X8_in hN a1 (1 : Int32) (3 : Int32) _) (by decide) (Nat.le_of_ble_eq_true rfl) (fun _ => rfl) (Nat.le_of_ble_eq_true rfl) rfl (fun r3 e3 => ?_)
  refine ag_if_eq (tgt := 18) (q := 9) dX8_game_6 rfl rfl ?_ ?_
  · refine ag_iconst (q := 19) (v := -1) dX8_game_18 rfl (by decide) ?_
    exact ag_iret dX8_game_19 rfl rfl
  refine ag_iload_2 (q := 10) dX8_game_9 rfl ?_
  refine ag_iconst (q := 11) (v := 0) dX8_game_10 rfl (by decide) ?_
  refine ag_iconst (q := 12) (v := 1) dX8_game_11 rfl (by decide) ?_
  refine ag_callS_pI (q := 15) (av := [.int _, .int _, .int _]) (rest := []) dX8_game_12 rfl lk8_115 (C_X8_in hN a2 (0 : Int32) (1 : Int32) _) (by decide) (Nat.le_of_ble_eq_true rfl) (fun _ => rfl) (Nat.le_of_ble_eq_true rfl) rfl (fun r12 e12 => ?_)
  refine ag_if_ne (tgt := 20) (q := 18) dX8_game_15 rfl rfl ?_ ?_
  · refine ag_aload_0 (q := 21) dX8_game_20 rfl ?_
    refine ag_callV_mU (q := 24) (av := []) (rest := []) dX8_game_21 rfl lk8_228 (C_X8_asItIs hN  _) (by decide) (Nat.le_of_ble_eq_true rfl) (Nat.lt_of_lt_of_le (by decide : 141 < NT) hN) (congrArg Prod.fst s_141) (by decide) (fun _ => rfl) (Nat.le_of_ble_eq_true rfl) rfl (fun r21 s21 e21 => ?_)
    refine ag_aload_0 (q := 25) dX8_game_24 rfl ?_
    refine ag_callV_pI (q := 28) (av := []) (rest := []) dX8_game_25 rfl lk8_222 (C_X8_lost hN  _) (by decide) (Nat.le_of_ble_eq_true rfl) (Nat.lt_of_lt_of_le (by decide : 141 < NT) hN) (congrArg Prod.fst s_141) (by decide) (fun _ => rfl) (Nat.le_of_ble_eq_true rfl) rfl (fun r25 e25 => ?_)
    refine ag_if_eq (tgt := 34) (q := 31) dX8_game_28 rfl rfl ?_ ?_
    · refine ag_aload_0 (q := 35) dX8_game_34 rfl ?_
      refine ag_iload_1 (q := 36) dX8_game_35 rfl ?_
      refine ag_callV_mI (q := 39) (av := [.int _]) (rest := []) dX8_game_36 rfl lk8_279 (C_X8_plays hN a1 _) (by decide) (Nat.le_of_ble_eq_true rfl) (Nat.lt_of_lt_of_le (by decide : 141 < NT) hN) (congrArg Prod.fst s_141) (by decide) (fun _ => rfl) (Nat.le_of_ble_eq_true rfl) rfl (fun r36 s36 e36 => ?_)
      refine ag_istore_3 (q := 40) dX8_game_39 rfl (Nat.le_of_ble_eq_true rfl) rfl ?_
      refine ag_iload_2 (q := 41) dX8_game_40 rfl ?_
      refine ag_if_ne (tgt := 51) (q := 44) dX8_game_41 rfl rfl ?_ ?_
      · refine ag_aload_0 (q := 52) dX8_game_51 rfl ?_
        refine ag_getR (q := 55) dX8_game_52 rfl fl8_73 (Nat.lt_of_lt_of_le (by decide : 141 < NT) hN) (congrArg Prod.fst s_141) rfl r_141_39 ?_
        refine ag_iconst (q := 56) (v := 5) dX8_game_55 rfl (by decide) ?_
        refine ag_ialdK (q := 57) (k := 5) dX8_game_56 rfl (Nat.lt_of_lt_of_le (by decide : 163 < NT) hN) s_163 (by decide) (by decide) ?_
        exact ag_iret dX8_game_57 rfl rfl
      refine ag_bipush (q := 46) (v := 100) dX8_game_44 rfl (by decide) ?_
      refine ag_iload_3 (q := 47) dX8_game_46 rfl ?_
      refine ag_iadd (q := 48) dX8_game_47 rfl ?_
      refine ag_goto (q := 57) dX8_game_48 rfl ?_
      exact ag_iret dX8_game_57 rfl rfl
    refine ag_bipush (q := 33) (v := -2) dX8_game_31 rfl (by decide) ?_
    exact ag_iret dX8_game_33 rfl rfl
  refine ag_iconst (q := 19) (v := -1) dX8_game_18 rfl (by decide) ?_
  exact ag_iret dX8_game_19 rfl rfl
theorem C_X8_game {N : Nat} (hN : NT ≤ N) (a1 : Int32) (a2 : Int32) (σ : Sg) : ∀ r s', J_X8_game a1 a2 σ = some (r, s') → AMc yX8_game mX8_game [.ref 141, .int a1, .int a2] N R0 σ (some (.int r), N, R0, s') := fun r s' e => AMc.of (L := [some (.ref 141), some (.int a1), some (.int a2), none]) (by decide) rfl (fun _ => rfl) (fun _ => Nat.le_of_ble_eq_true rfl) (Nat.le_refl _) (fun K => A_X8_game K hN a1 a2 σ _ e)
def J_X8_again_b30  : Nat → Int32 → Int32 → Sg → Option (Int32 × Sg)
  | 0, _, _, _ => none
  | k + 1, x1, x2, σ =>
    (if (60 : Int32) < x2 then (some ((-4 : Int32), σ)) else (if inb ((1 : Int32) + x1) 54 = true then (if (σ 157 ((1 : Int32) + x1).toNatClampNeg) ≤ 0 then (bd2 (J_X8_goesBy (99 : Int32) σ) fun r52 s52 => (J_X8_again_b30   k x1 (x2 + (1)) s52)) else (some (x2, σ))) else none))
set_option maxHeartbeats 4000000 in
theorem A_X8_again_b30 (K : KT) {N : Nat} (hN : NT ≤ N)  : ∀ (k : Nat) (x1 : Int32) (x2 : Int32) (σ : Sg), AG K mX8_again N (fun a : Int32 × Sg => (some (.int a.1), N, R0, a.2)) (J_X8_again_b30   k x1 x2 σ) 30 [some (.ref 141), some (.int x1), some (.int x2)] [] σ := by
  intro k
  induction k with
  | zero => intro x1 x2 σ; exact ag_none
  | succ k ih =>
    intro x1 x2 σ
    rw [J_X8_again_b30]
    refine ag_iload_2 (q := 31) dX8_again_30 rfl ?_
    refine ag_bipush (q := 33) (v := 60) dX8_again_31 rfl (by decide) ?_
    refine ag_icmp_gt (tgt := 61) (q := 36) dX8_again_33 rfl rfl ?_ ?_
    · refine ag_bipush (q := 63) (v := -4) dX8_again_61 rfl (by decide) ?_
      exact ag_iret dX8_again_63 rfl rfl
    refine ag_aload_0 (q := 37) dX8_again_36 rfl ?_
    refine ag_getR (q := 40) dX8_again_37 rfl fl8_55 (Nat.lt_of_lt_of_le (by decide : 141 < NT) hN) (congrArg Prod.fst s_141) rfl r_141_31 ?_
    refine ag_iconst (q := 41) (v := 1) dX8_again_40 rfl (by decide) ?_
    refine ag_iload_1 (q := 42) dX8_again_41 rfl ?_
    refine ag_iadd (q := 43) dX8_again_42 rfl ?_
    refine ag_iald (q := 44) dX8_again_43 rfl (Nat.lt_of_lt_of_le (by decide : 157 < NT) hN) s_157 ?_
    refine ag_if_le (tgt := 49) (q := 47) dX8_again_44 rfl rfl ?_ ?_
    · refine ag_aload_0 (q := 50) dX8_again_49 rfl ?_
      refine ag_bipush (q := 52) (v := 99) dX8_again_50 rfl (by decide) ?_
      refine ag_callV_mU (q := 55) (av := [.int _]) (rest := []) dX8_again_52 rfl lk8_240 (C_X8_goesBy hN (99 : Int32) _) (by decide) (Nat.le_of_ble_eq_true rfl) (Nat.lt_of_lt_of_le (by decide : 141 < NT) hN) (congrArg Prod.fst s_141) (by decide) (fun _ => rfl) (Nat.le_of_ble_eq_true rfl) rfl (fun r52 s52 e52 => ?_)
      refine ag_iinc_2 (q := 58) (d := (1)) dX8_again_55 rfl (Nat.le_of_ble_eq_true rfl) rfl (by decide) ?_
      refine ag_goto (q := 30) dX8_again_58 rfl ?_
      exact ih x1 (x2 + (1)) s52
    refine ag_iload_2 (q := 48) dX8_again_47 rfl ?_
    exact ag_iret dX8_again_48 rfl rfl
def J_X8_again (a1 : Int32) (σ : Sg) : Option (Int32 × Sg) :=
  (bd1 (J_X8_isSquare a1 σ) fun r2 => (if r2 = 0 then (some ((-1 : Int32), σ)) else (if inb a1 36 = true then (if (σ 142 a1.toNatClampNeg) = (9 : Int32) then (some ((-2 : Int32), σ)) else (bd2 (J_X8_asItIs  σ) fun r25 s25 => (J_X8_again_b30   FU a1 (0 : Int32) s25))) else none)))
set_option maxHeartbeats 4000000 in
theorem A_X8_again (K : KT) {N : Nat} (hN : NT ≤ N) (a1 : Int32) (σ : Sg) : AG K mX8_again N (fun a : Int32 × Sg => (some (.int a.1), N, R0, a.2)) (J_X8_again a1 σ) 0 [some (.ref 141), some (.int a1), none] [] σ := by
  unfold J_X8_again
  refine ag_aload_0 (q := 1) dX8_again_0 rfl ?_
  refine ag_iload_1 (q := 2) dX8_again_1 rfl ?_
  refine ag_callV_pI (q := 5) (av := [.int _]) (rest := []) dX8_again_2 rfl lk8_225 (C_X8_isSquare hN a1 _) (by decide) (Nat.le_of_ble_eq_true rfl) (Nat.lt_of_lt_of_le (by decide : 141 < NT) hN) (congrArg Prod.fst s_141) (by decide) (fun _ => rfl) (Nat.le_of_ble_eq_true rfl) rfl (fun r2 e2 => ?_)
  refine ag_if_ne (tgt := 10) (q := 8) dX8_again_5 rfl rfl ?_ ?_
  · refine ag_aload_0 (q := 11) dX8_again_10 rfl ?_
    refine ag_getR (q := 14) dX8_again_11 rfl fl8_7 (Nat.lt_of_lt_of_le (by decide : 141 < NT) hN) (congrArg Prod.fst s_141) rfl r_141_2 ?_
    refine ag_iload_1 (q := 15) dX8_again_14 rfl ?_
    refine ag_iald (q := 16) dX8_again_15 rfl (Nat.lt_of_lt_of_le (by decide : 142 < NT) hN) s_142 ?_
    refine ag_bipush (q := 18) (v := 9) dX8_again_16 rfl (by decide) ?_
    refine ag_icmp_ne (tgt := 24) (q := 21) dX8_again_18 rfl rfl ?_ ?_
    · refine ag_aload_0 (q := 25) dX8_again_24 rfl ?_
      refine ag_callV_mU (q := 28) (av := []) (rest := []) dX8_again_25 rfl lk8_228 (C_X8_asItIs hN  _) (by decide) (Nat.le_of_ble_eq_true rfl) (Nat.lt_of_lt_of_le (by decide : 141 < NT) hN) (congrArg Prod.fst s_141) (by decide) (fun _ => rfl) (Nat.le_of_ble_eq_true rfl) rfl (fun r25 s25 e25 => ?_)
      refine ag_iconst (q := 29) (v := 0) dX8_again_28 rfl (by decide) ?_
      refine ag_istore_2 (q := 30) dX8_again_29 rfl (Nat.le_of_ble_eq_true rfl) rfl ?_
      exact A_X8_again_b30 K hN   FU a1 (0 : Int32) s25
    refine ag_bipush (q := 23) (v := -2) dX8_again_21 rfl (by decide) ?_
    exact ag_iret dX8_again_23 rfl rfl
  refine ag_iconst (q := 9) (v := -1) dX8_again_8 rfl (by decide) ?_
  exact ag_iret dX8_again_9 rfl rfl
theorem C_X8_again {N : Nat} (hN : NT ≤ N) (a1 : Int32) (σ : Sg) : ∀ r s', J_X8_again a1 σ = some (r, s') → AMc yX8_again mX8_again [.ref 141, .int a1] N R0 σ (some (.int r), N, R0, s') := fun r s' e => AMc.of (L := [some (.ref 141), some (.int a1), none]) (by decide) rfl (fun _ => rfl) (fun _ => Nat.le_of_ble_eq_true rfl) (Nat.le_refl _) (fun K => A_X8_again K hN a1 σ _ e)
def J_X8_starves_b33  : Nat → Int32 → Int32 → Sg → Option (Int32 × Sg)
  | 0, _, _, _ => none
  | k + 1, x1, x2, σ =>
    (if (60 : Int32) < x2 then (some ((-4 : Int32), σ)) else (bd2 (J_X8_goesBy (99 : Int32) σ) fun r42 s42 => (if inb ((37 : Int32) + x1) 54 = true then (if (s42 157 ((37 : Int32) + x1).toNatClampNeg) = (36 : Int32) then (some (x2, s42)) else (J_X8_starves_b33   k x1 (x2 + (1)) s42)) else none)))
set_option maxHeartbeats 4000000 in
theorem A_X8_starves_b33 (K : KT) {N : Nat} (hN : NT ≤ N)  : ∀ (k : Nat) (x1 : Int32) (x2 : Int32) (σ : Sg), AG K mX8_starves N (fun a : Int32 × Sg => (some (.int a.1), N, R0, a.2)) (J_X8_starves_b33   k x1 x2 σ) 33 [some (.ref 141), some (.int x1), some (.int x2)] [] σ := by
  intro k
  induction k with
  | zero => intro x1 x2 σ; exact ag_none
  | succ k ih =>
    intro x1 x2 σ
    rw [J_X8_starves_b33]
    refine ag_iload_2 (q := 34) dX8_starves_33 rfl ?_
    refine ag_bipush (q := 36) (v := 60) dX8_starves_34 rfl (by decide) ?_
    refine ag_icmp_gt (tgt := 67) (q := 39) dX8_starves_36 rfl rfl ?_ ?_
    · refine ag_bipush (q := 69) (v := -4) dX8_starves_67 rfl (by decide) ?_
      exact ag_iret dX8_starves_69 rfl rfl
    refine ag_aload_0 (q := 40) dX8_starves_39 rfl ?_
    refine ag_bipush (q := 42) (v := 99) dX8_starves_40 rfl (by decide) ?_
    refine ag_callV_mU (q := 45) (av := [.int _]) (rest := []) dX8_starves_42 rfl lk8_240 (C_X8_goesBy hN (99 : Int32) _) (by decide) (Nat.le_of_ble_eq_true rfl) (Nat.lt_of_lt_of_le (by decide : 141 < NT) hN) (congrArg Prod.fst s_141) (by decide) (fun _ => rfl) (Nat.le_of_ble_eq_true rfl) rfl (fun r42 s42 e42 => ?_)
    refine ag_aload_0 (q := 46) dX8_starves_45 rfl ?_
    refine ag_getR (q := 49) dX8_starves_46 rfl fl8_55 (Nat.lt_of_lt_of_le (by decide : 141 < NT) hN) (congrArg Prod.fst s_141) rfl r_141_31 ?_
    refine ag_bipush (q := 51) (v := 37) dX8_starves_49 rfl (by decide) ?_
    refine ag_iload_1 (q := 52) dX8_starves_51 rfl ?_
    refine ag_iadd (q := 53) dX8_starves_52 rfl ?_
    refine ag_iald (q := 54) dX8_starves_53 rfl (Nat.lt_of_lt_of_le (by decide : 157 < NT) hN) s_157 ?_
    refine ag_bipush (q := 56) (v := 36) dX8_starves_54 rfl (by decide) ?_
    refine ag_icmp_ne (tgt := 61) (q := 59) dX8_starves_56 rfl rfl ?_ ?_
    · refine ag_iinc_2 (q := 64) (d := (1)) dX8_starves_61 rfl (Nat.le_of_ble_eq_true rfl) rfl (by decide) ?_
      refine ag_goto (q := 33) dX8_starves_64 rfl ?_
      exact ih x1 (x2 + (1)) s42
    refine ag_iload_2 (q := 60) dX8_starves_59 rfl ?_
    exact ag_iret dX8_starves_60 rfl rfl
def J_X8_starves (a1 : Int32) (σ : Sg) : Option (Int32 × Sg) :=
  (bd1 (J_X8_isBeast a1 σ) fun r2 => (if r2 = 0 then (some ((-1 : Int32), σ)) else (if inb ((37 : Int32) + a1) 54 = true then (if (σ 146 ((37 : Int32) + a1).toNatClampNeg) = (36 : Int32) then (some ((-2 : Int32), σ)) else (bd2 (J_X8_asItIs  σ) fun r28 s28 => (J_X8_starves_b33   FU a1 (1 : Int32) s28))) else none)))
set_option maxHeartbeats 4000000 in
theorem A_X8_starves (K : KT) {N : Nat} (hN : NT ≤ N) (a1 : Int32) (σ : Sg) : AG K mX8_starves N (fun a : Int32 × Sg => (some (.int a.1), N, R0, a.2)) (J_X8_starves a1 σ) 0 [some (.ref 141), some (.int a1), none] [] σ := by
  unfold J_X8_starves
  refine ag_aload_0 (q := 1) dX8_starves_0 rfl ?_
  refine ag_iload_1 (q := 2) dX8_starves_1 rfl ?_
  refine ag_callV_pI (q := 5) (av := [.int _]) (rest := []) dX8_starves_2 rfl lk8_231 (C_X8_isBeast hN a1 _) (by decide) (Nat.le_of_ble_eq_true rfl) (Nat.lt_of_lt_of_le (by decide : 141 < NT) hN) (congrArg Prod.fst s_141) (by decide) (fun _ => rfl) (Nat.le_of_ble_eq_true rfl) rfl (fun r2 e2 => ?_)
  refine ag_if_ne (tgt := 10) (q := 8) dX8_starves_5 rfl rfl ?_ ?_
  · refine ag_aload_0 (q := 11) dX8_starves_10 rfl ?_
    refine ag_getR (q := 14) dX8_starves_11 rfl fl8_22 (Nat.lt_of_lt_of_le (by decide : 141 < NT) hN) (congrArg Prod.fst s_141) rfl r_141_10 ?_
    refine ag_bipush (q := 16) (v := 37) dX8_starves_14 rfl (by decide) ?_
    refine ag_iload_1 (q := 17) dX8_starves_16 rfl ?_
    refine ag_iadd (q := 18) dX8_starves_17 rfl ?_
    refine ag_iald (q := 19) dX8_starves_18 rfl (Nat.lt_of_lt_of_le (by decide : 146 < NT) hN) s_146 ?_
    refine ag_bipush (q := 21) (v := 36) dX8_starves_19 rfl (by decide) ?_
    refine ag_icmp_ne (tgt := 27) (q := 24) dX8_starves_21 rfl rfl ?_ ?_
    · refine ag_aload_0 (q := 28) dX8_starves_27 rfl ?_
      refine ag_callV_mU (q := 31) (av := []) (rest := []) dX8_starves_28 rfl lk8_228 (C_X8_asItIs hN  _) (by decide) (Nat.le_of_ble_eq_true rfl) (Nat.lt_of_lt_of_le (by decide : 141 < NT) hN) (congrArg Prod.fst s_141) (by decide) (fun _ => rfl) (Nat.le_of_ble_eq_true rfl) rfl (fun r28 s28 e28 => ?_)
      refine ag_iconst (q := 32) (v := 1) dX8_starves_31 rfl (by decide) ?_
      refine ag_istore_2 (q := 33) dX8_starves_32 rfl (Nat.le_of_ble_eq_true rfl) rfl ?_
      exact A_X8_starves_b33 K hN   FU a1 (1 : Int32) s28
    refine ag_bipush (q := 26) (v := -2) dX8_starves_24 rfl (by decide) ?_
    exact ag_iret dX8_starves_26 rfl rfl
  refine ag_iconst (q := 9) (v := -1) dX8_starves_8 rfl (by decide) ?_
  exact ag_iret dX8_starves_9 rfl rfl
theorem C_X8_starves {N : Nat} (hN : NT ≤ N) (a1 : Int32) (σ : Sg) : ∀ r s', J_X8_starves a1 σ = some (r, s') → AMc yX8_starves mX8_starves [.ref 141, .int a1] N R0 σ (some (.int r), N, R0, s') := fun r s' e => AMc.of (L := [some (.ref 141), some (.int a1), none]) (by decide) rfl (fun _ => rfl) (fun _ => Nat.le_of_ble_eq_true rfl) (Nat.le_refl _) (fun K => A_X8_starves K hN a1 σ _ e)
def J_X8_isOtherwise_b81  : Nat → Int32 → Int32 → Int32 → Sg → Option (Int32 × Sg)
  | 0, _, _, _, _ => none
  | k + 1, x3, x4, x5, σ =>
    (if (σ 141 11) ≤ x5 then (if inb ((37 : Int32) + x3) 54 = true then (if (σ 157 ((37 : Int32) + x3).toNatClampNeg) = x4 then (some ((1 : Int32), σ)) else (some ((0 : Int32), σ))) else none) else (if inb x5 8 = true then (if (σ 148 x5.toNatClampNeg) = (99 : Int32) then (bd2 (J_X8_goesBy (99 : Int32) σ) fun r129 s129 => (J_X8_isOtherwise_b81   k x3 x4 (x5 + (1)) s129)) else (if inb x5 8 = true then (bd2 (J_X8_canDrive (σ 148 x5.toNatClampNeg) σ) fun r111 s111 => (if r111 = 0 then (bd2 (J_X8_goesBy (99 : Int32) s111) fun r129 s129 => (J_X8_isOtherwise_b81   k x3 x4 (x5 + (1)) s129)) else (if inb x5 8 = true then (bd2 (J_X8_goesBy (s111 148 x5.toNatClampNeg) s111) fun r129 s129 => (J_X8_isOtherwise_b81   k x3 x4 (x5 + (1)) s129)) else none))) else none)) else none))
set_option maxHeartbeats 4000000 in
theorem A_X8_isOtherwise_b81 (K : KT) {N : Nat} (hN : NT ≤ N)  : ∀ (k : Nat) (x3 : Int32) (x4 : Int32) (x5 : Int32) (σ : Sg), AG K mX8_isOtherwise N (fun a : Int32 × Sg => (some (.int a.1), N, R0, a.2)) (J_X8_isOtherwise_b81   k x3 x4 x5 σ) 81 [some (.ref 141), none, none, some (.int x3), some (.int x4), some (.int x5)] [] σ := by
  intro k
  induction k with
  | zero => intro x3 x4 x5 σ; exact ag_none
  | succ k ih =>
    intro x3 x4 x5 σ
    rw [J_X8_isOtherwise_b81]
    refine ag_iload_5 (q := 83) dX8_isOtherwise_81 rfl ?_
    refine ag_aload_0 (q := 84) dX8_isOtherwise_83 rfl ?_
    refine ag_getI (q := 87) dX8_isOtherwise_84 rfl fl8_175 (Nat.lt_of_lt_of_le (by decide : 141 < NT) hN) (congrArg Prod.fst s_141) rfl ?_
    refine ag_icmp_ge (tgt := 138) (q := 90) dX8_isOtherwise_87 rfl rfl ?_ ?_
    · refine ag_aload_0 (q := 139) dX8_isOtherwise_138 rfl ?_
      refine ag_getR (q := 142) dX8_isOtherwise_139 rfl fl8_55 (Nat.lt_of_lt_of_le (by decide : 141 < NT) hN) (congrArg Prod.fst s_141) rfl r_141_31 ?_
      refine ag_bipush (q := 144) (v := 37) dX8_isOtherwise_142 rfl (by decide) ?_
      refine ag_iload_3 (q := 145) dX8_isOtherwise_144 rfl ?_
      refine ag_iadd (q := 146) dX8_isOtherwise_145 rfl ?_
      refine ag_iald (q := 147) dX8_isOtherwise_146 rfl (Nat.lt_of_lt_of_le (by decide : 157 < NT) hN) s_157 ?_
      refine ag_iload_4 (q := 149) dX8_isOtherwise_147 rfl ?_
      refine ag_icmp_ne (tgt := 156) (q := 152) dX8_isOtherwise_149 rfl rfl ?_ ?_
      · refine ag_iconst (q := 157) (v := 0) dX8_isOtherwise_156 rfl (by decide) ?_
        exact ag_zretK dX8_isOtherwise_157 rfl (by decide) rfl
      refine ag_iconst (q := 153) (v := 1) dX8_isOtherwise_152 rfl (by decide) ?_
      refine ag_goto (q := 157) dX8_isOtherwise_153 rfl ?_
      exact ag_zretK dX8_isOtherwise_157 rfl (by decide) rfl
    refine ag_aload_0 (q := 91) dX8_isOtherwise_90 rfl ?_
    refine ag_aload_0 (q := 92) dX8_isOtherwise_91 rfl ?_
    refine ag_getR (q := 95) dX8_isOtherwise_92 rfl fl8_28 (Nat.lt_of_lt_of_le (by decide : 141 < NT) hN) (congrArg Prod.fst s_141) rfl r_141_13 ?_
    refine ag_iload_5 (q := 97) dX8_isOtherwise_95 rfl ?_
    refine ag_iald (q := 98) dX8_isOtherwise_97 rfl (Nat.lt_of_lt_of_le (by decide : 148 < NT) hN) s_148 ?_
    refine ag_bipush (q := 100) (v := 99) dX8_isOtherwise_98 rfl (by decide) ?_
    refine ag_icmp_eq (tgt := 127) (q := 103) dX8_isOtherwise_100 rfl rfl ?_ ?_
    · refine ag_bipush (q := 129) (v := 99) dX8_isOtherwise_127 rfl (by decide) ?_
      refine ag_callV_mU (q := 132) (av := [.int _]) (rest := []) dX8_isOtherwise_129 rfl lk8_240 (C_X8_goesBy hN (99 : Int32) _) (by decide) (Nat.le_of_ble_eq_true rfl) (Nat.lt_of_lt_of_le (by decide : 141 < NT) hN) (congrArg Prod.fst s_141) (by decide) (fun _ => rfl) (Nat.le_of_ble_eq_true rfl) rfl (fun r129 s129 e129 => ?_)
      refine ag_iinc_5 (q := 135) (d := (1)) dX8_isOtherwise_132 rfl (Nat.le_of_ble_eq_true rfl) rfl (by decide) ?_
      refine ag_goto (q := 81) dX8_isOtherwise_135 rfl ?_
      exact ih x3 x4 (x5 + (1)) s129
    refine ag_aload_0 (q := 104) dX8_isOtherwise_103 rfl ?_
    refine ag_aload_0 (q := 105) dX8_isOtherwise_104 rfl ?_
    refine ag_getR (q := 108) dX8_isOtherwise_105 rfl fl8_28 (Nat.lt_of_lt_of_le (by decide : 141 < NT) hN) (congrArg Prod.fst s_141) rfl r_141_13 ?_
    refine ag_iload_5 (q := 110) dX8_isOtherwise_108 rfl ?_
    refine ag_iald (q := 111) dX8_isOtherwise_110 rfl (Nat.lt_of_lt_of_le (by decide : 148 < NT) hN) s_148 ?_
    refine ag_callV_mI (q := 114) (av := [.int _]) (rest := [.ref _]) dX8_isOtherwise_111 rfl lk8_243 (C_X8_canDrive hN (σ 148 x5.toNatClampNeg) _) (by decide) (Nat.le_of_ble_eq_true rfl) (Nat.lt_of_lt_of_le (by decide : 141 < NT) hN) (congrArg Prod.fst s_141) (by decide) (fun _ => rfl) (Nat.le_of_ble_eq_true rfl) rfl (fun r111 s111 e111 => ?_)
    refine ag_if_eq (tgt := 127) (q := 117) dX8_isOtherwise_114 rfl rfl ?_ ?_
    · refine ag_bipush (q := 129) (v := 99) dX8_isOtherwise_127 rfl (by decide) ?_
      refine ag_callV_mU (q := 132) (av := [.int _]) (rest := []) dX8_isOtherwise_129 rfl lk8_240 (C_X8_goesBy hN (99 : Int32) _) (by decide) (Nat.le_of_ble_eq_true rfl) (Nat.lt_of_lt_of_le (by decide : 141 < NT) hN) (congrArg Prod.fst s_141) (by decide) (fun _ => rfl) (Nat.le_of_ble_eq_true rfl) rfl (fun r129 s129 e129 => ?_)
      refine ag_iinc_5 (q := 135) (d := (1)) dX8_isOtherwise_132 rfl (Nat.le_of_ble_eq_true rfl) rfl (by decide) ?_
      refine ag_goto (q := 81) dX8_isOtherwise_135 rfl ?_
      exact ih x3 x4 (x5 + (1)) s129
    refine ag_aload_0 (q := 118) dX8_isOtherwise_117 rfl ?_
    refine ag_getR (q := 121) dX8_isOtherwise_118 rfl fl8_28 (Nat.lt_of_lt_of_le (by decide : 141 < NT) hN) (congrArg Prod.fst s_141) rfl r_141_13 ?_
    refine ag_iload_5 (q := 123) dX8_isOtherwise_121 rfl ?_
    refine ag_iald (q := 124) dX8_isOtherwise_123 rfl (Nat.lt_of_lt_of_le (by decide : 148 < NT) hN) s_148 ?_
    refine ag_goto (q := 129) dX8_isOtherwise_124 rfl ?_
    refine ag_callV_mU (q := 132) (av := [.int _]) (rest := []) dX8_isOtherwise_129 rfl lk8_240 (C_X8_goesBy hN (s111 148 x5.toNatClampNeg) _) (by decide) (Nat.le_of_ble_eq_true rfl) (Nat.lt_of_lt_of_le (by decide : 141 < NT) hN) (congrArg Prod.fst s_141) (by decide) (fun _ => rfl) (Nat.le_of_ble_eq_true rfl) rfl (fun r129 s129 e129 => ?_)
    refine ag_iinc_5 (q := 135) (d := (1)) dX8_isOtherwise_132 rfl (Nat.le_of_ble_eq_true rfl) rfl (by decide) ?_
    refine ag_goto (q := 81) dX8_isOtherwise_135 rfl ?_
    exact ih x3 x4 (x5 + (1)) s129
def J_X8_isOtherwise (a1 : Int32) (a2 : Int32) (a3 : Int32) (a4 : Int32) (σ : Sg) : Option (Int32 × Sg) :=
  (bd2 (J_X8_copies 157 (0 : Int32) 147 ((54 : Int32) * a1) (54 : Int32) σ) fun r15 s15 => (if inb a1 8 = true then (if a2 = (s15 148 a1.toNatClampNeg) then (some ((0 : Int32), s15)) else (if a2 = (99 : Int32) then (bd2 (J_X8_goesBy a2 s15) fun r73 s73 => (J_X8_isOtherwise_b81   FU a3 a4 (a1 + (1 : Int32)) s73)) else (if inb a1 8 = true then (if (s15 148 a1.toNatClampNeg) = (99 : Int32) then (bd2 (J_X8_canDrive a2 s15) fun r63 s63 => (if r63 = 0 then (some ((0 : Int32), s63)) else (bd2 (J_X8_goesBy a2 s63) fun r73 s73 => (J_X8_isOtherwise_b81   FU a3 a4 (a1 + (1 : Int32)) s73)))) else (if inb a1 8 = true then (if (a2 / (10 : Int32)) = ((s15 148 a1.toNatClampNeg) / (10 : Int32)) then (bd2 (J_X8_canDrive a2 s15) fun r63 s63 => (if r63 = 0 then (some ((0 : Int32), s63)) else (bd2 (J_X8_goesBy a2 s63) fun r73 s73 => (J_X8_isOtherwise_b81   FU a3 a4 (a1 + (1 : Int32)) s73)))) else (some ((0 : Int32), s15))) else none)) else none))) else none))
set_option maxHeartbeats 4000000 in
theorem A_X8_isOtherwise (K : KT) {N : Nat} (hN : NT ≤ N) (a1 : Int32) (a2 : Int32) (a3 : Int32) (a4 : Int32) (σ : Sg) : AG K mX8_isOtherwise N (fun a : Int32 × Sg => (some (.int a.1), N, R0, a.2)) (J_X8_isOtherwise a1 a2 a3 a4 σ) 0 [some (.ref 141), some (.int a1), some (.int a2), some (.int a3), some (.int a4), none] [] σ := by
  unfold J_X8_isOtherwise
  refine ag_aload_0 (q := 1) dX8_isOtherwise_0 rfl ?_
  refine ag_getR (q := 4) dX8_isOtherwise_1 rfl fl8_55 (Nat.lt_of_lt_of_le (by decide : 141 < NT) hN) (congrArg Prod.fst s_141) rfl r_141_31 ?_
  refine ag_iconst (q := 5) (v := 0) dX8_isOtherwise_4 rfl (by decide) ?_
  refine ag_aload_0 (q := 6) dX8_isOtherwise_5 rfl ?_
  refine ag_getR (q := 9) dX8_isOtherwise_6 rfl fl8_25 (Nat.lt_of_lt_of_le (by decide : 141 < NT) hN) (congrArg Prod.fst s_141) rfl r_141_12 ?_
  refine ag_bipush (q := 11) (v := 54) dX8_isOtherwise_9 rfl (by decide) ?_
  refine ag_iload_1 (q := 12) dX8_isOtherwise_11 rfl ?_
  refine ag_imul (q := 13) dX8_isOtherwise_12 rfl ?_
  refine ag_bipush (q := 15) (v := 54) dX8_isOtherwise_13 rfl (by decide) ?_
  refine ag_callS_mU (q := 18) (av := [.ref _, .int _, .ref _, .int _, .int _]) (rest := []) dX8_isOtherwise_15 rfl lk8_162 (C_X8_copies hN 157 (by decide) (0 : Int32) 147 (by decide) ((54 : Int32) * a1) (54 : Int32) _) (by decide) (Nat.le_of_ble_eq_true rfl) (fun _ => rfl) (Nat.le_of_ble_eq_true rfl) rfl (fun r15 s15 e15 => ?_)
  refine ag_iload_2 (q := 19) dX8_isOtherwise_18 rfl ?_
  refine ag_aload_0 (q := 20) dX8_isOtherwise_19 rfl ?_
  refine ag_getR (q := 23) dX8_isOtherwise_20 rfl fl8_28 (Nat.lt_of_lt_of_le (by decide : 141 < NT) hN) (congrArg Prod.fst s_141) rfl r_141_13 ?_
  refine ag_iload_1 (q := 24) dX8_isOtherwise_23 rfl ?_
  refine ag_iald (q := 25) dX8_isOtherwise_24 rfl (Nat.lt_of_lt_of_le (by decide : 148 < NT) hN) s_148 ?_
  refine ag_icmp_eq (tgt := 69) (q := 28) dX8_isOtherwise_25 rfl rfl ?_ ?_
  · refine ag_iconst (q := 70) (v := 0) dX8_isOtherwise_69 rfl (by decide) ?_
    exact ag_zretK dX8_isOtherwise_70 rfl (by decide) rfl
  refine ag_iload_2 (q := 29) dX8_isOtherwise_28 rfl ?_
  refine ag_bipush (q := 31) (v := 99) dX8_isOtherwise_29 rfl (by decide) ?_
  refine ag_icmp_eq (tgt := 71) (q := 34) dX8_isOtherwise_31 rfl rfl ?_ ?_
  · refine ag_aload_0 (q := 72) dX8_isOtherwise_71 rfl ?_
    refine ag_iload_2 (q := 73) dX8_isOtherwise_72 rfl ?_
    refine ag_callV_mU (q := 76) (av := [.int _]) (rest := []) dX8_isOtherwise_73 rfl lk8_240 (C_X8_goesBy hN a2 _) (by decide) (Nat.le_of_ble_eq_true rfl) (Nat.lt_of_lt_of_le (by decide : 141 < NT) hN) (congrArg Prod.fst s_141) (by decide) (fun _ => rfl) (Nat.le_of_ble_eq_true rfl) rfl (fun r73 s73 e73 => ?_)
    refine ag_iload_1 (q := 77) dX8_isOtherwise_76 rfl ?_
    refine ag_iconst (q := 78) (v := 1) dX8_isOtherwise_77 rfl (by decide) ?_
    refine ag_iadd (q := 79) dX8_isOtherwise_78 rfl ?_
    refine ag_istore_5 (q := 81) dX8_isOtherwise_79 rfl (Nat.le_of_ble_eq_true rfl) rfl ?_
    refine ag_kill_1 ?_
    refine ag_kill_2 ?_
    exact A_X8_isOtherwise_b81 K hN   FU a3 a4 (a1 + (1 : Int32)) s73
  refine ag_aload_0 (q := 35) dX8_isOtherwise_34 rfl ?_
  refine ag_getR (q := 38) dX8_isOtherwise_35 rfl fl8_28 (Nat.lt_of_lt_of_le (by decide : 141 < NT) hN) (congrArg Prod.fst s_141) rfl r_141_13 ?_
  refine ag_iload_1 (q := 39) dX8_isOtherwise_38 rfl ?_
  refine ag_iald (q := 40) dX8_isOtherwise_39 rfl (Nat.lt_of_lt_of_le (by decide : 148 < NT) hN) s_148 ?_
  refine ag_bipush (q := 42) (v := 99) dX8_isOtherwise_40 rfl (by decide) ?_
  refine ag_icmp_eq (tgt := 61) (q := 45) dX8_isOtherwise_42 rfl rfl ?_ ?_
  · refine ag_aload_0 (q := 62) dX8_isOtherwise_61 rfl ?_
    refine ag_iload_2 (q := 63) dX8_isOtherwise_62 rfl ?_
    refine ag_callV_mI (q := 66) (av := [.int _]) (rest := []) dX8_isOtherwise_63 rfl lk8_243 (C_X8_canDrive hN a2 _) (by decide) (Nat.le_of_ble_eq_true rfl) (Nat.lt_of_lt_of_le (by decide : 141 < NT) hN) (congrArg Prod.fst s_141) (by decide) (fun _ => rfl) (Nat.le_of_ble_eq_true rfl) rfl (fun r63 s63 e63 => ?_)
    refine ag_if_ne (tgt := 71) (q := 69) dX8_isOtherwise_66 rfl rfl ?_ ?_
    · refine ag_aload_0 (q := 72) dX8_isOtherwise_71 rfl ?_
      refine ag_iload_2 (q := 73) dX8_isOtherwise_72 rfl ?_
      refine ag_callV_mU (q := 76) (av := [.int _]) (rest := []) dX8_isOtherwise_73 rfl lk8_240 (C_X8_goesBy hN a2 _) (by decide) (Nat.le_of_ble_eq_true rfl) (Nat.lt_of_lt_of_le (by decide : 141 < NT) hN) (congrArg Prod.fst s_141) (by decide) (fun _ => rfl) (Nat.le_of_ble_eq_true rfl) rfl (fun r73 s73 e73 => ?_)
      refine ag_iload_1 (q := 77) dX8_isOtherwise_76 rfl ?_
      refine ag_iconst (q := 78) (v := 1) dX8_isOtherwise_77 rfl (by decide) ?_
      refine ag_iadd (q := 79) dX8_isOtherwise_78 rfl ?_
      refine ag_istore_5 (q := 81) dX8_isOtherwise_79 rfl (Nat.le_of_ble_eq_true rfl) rfl ?_
      refine ag_kill_1 ?_
      refine ag_kill_2 ?_
      exact A_X8_isOtherwise_b81 K hN   FU a3 a4 (a1 + (1 : Int32)) s73
    refine ag_iconst (q := 70) (v := 0) dX8_isOtherwise_69 rfl (by decide) ?_
    exact ag_zretK dX8_isOtherwise_70 rfl (by decide) rfl
  refine ag_iload_2 (q := 46) dX8_isOtherwise_45 rfl ?_
  refine ag_bipush (q := 48) (v := 10) dX8_isOtherwise_46 rfl (by decide) ?_
  refine ag_idivK (q := 49) dX8_isOtherwise_48 rfl (by decide) ?_
  refine ag_aload_0 (q := 50) dX8_isOtherwise_49 rfl ?_
  refine ag_getR (q := 53) dX8_isOtherwise_50 rfl fl8_28 (Nat.lt_of_lt_of_le (by decide : 141 < NT) hN) (congrArg Prod.fst s_141) rfl r_141_13 ?_
  refine ag_iload_1 (q := 54) dX8_isOtherwise_53 rfl ?_
  refine ag_iald (q := 55) dX8_isOtherwise_54 rfl (Nat.lt_of_lt_of_le (by decide : 148 < NT) hN) s_148 ?_
  refine ag_bipush (q := 57) (v := 10) dX8_isOtherwise_55 rfl (by decide) ?_
  refine ag_idivK (q := 58) dX8_isOtherwise_57 rfl (by decide) ?_
  refine ag_icmp_ne (tgt := 69) (q := 61) dX8_isOtherwise_58 rfl rfl ?_ ?_
  · refine ag_iconst (q := 70) (v := 0) dX8_isOtherwise_69 rfl (by decide) ?_
    exact ag_zretK dX8_isOtherwise_70 rfl (by decide) rfl
  refine ag_aload_0 (q := 62) dX8_isOtherwise_61 rfl ?_
  refine ag_iload_2 (q := 63) dX8_isOtherwise_62 rfl ?_
  refine ag_callV_mI (q := 66) (av := [.int _]) (rest := []) dX8_isOtherwise_63 rfl lk8_243 (C_X8_canDrive hN a2 _) (by decide) (Nat.le_of_ble_eq_true rfl) (Nat.lt_of_lt_of_le (by decide : 141 < NT) hN) (congrArg Prod.fst s_141) (by decide) (fun _ => rfl) (Nat.le_of_ble_eq_true rfl) rfl (fun r63 s63 e63 => ?_)
  refine ag_if_ne (tgt := 71) (q := 69) dX8_isOtherwise_66 rfl rfl ?_ ?_
  · refine ag_aload_0 (q := 72) dX8_isOtherwise_71 rfl ?_
    refine ag_iload_2 (q := 73) dX8_isOtherwise_72 rfl ?_
    refine ag_callV_mU (q := 76) (av := [.int _]) (rest := []) dX8_isOtherwise_73 rfl lk8_240 (C_X8_goesBy hN a2 _) (by decide) (Nat.le_of_ble_eq_true rfl) (Nat.lt_of_lt_of_le (by decide : 141 < NT) hN) (congrArg Prod.fst s_141) (by decide) (fun _ => rfl) (Nat.le_of_ble_eq_true rfl) rfl (fun r73 s73 e73 => ?_)
    refine ag_iload_1 (q := 77) dX8_isOtherwise_76 rfl ?_
    refine ag_iconst (q := 78) (v := 1) dX8_isOtherwise_77 rfl (by decide) ?_
    refine ag_iadd (q := 79) dX8_isOtherwise_78 rfl ?_
    refine ag_istore_5 (q := 81) dX8_isOtherwise_79 rfl (Nat.le_of_ble_eq_true rfl) rfl ?_
    refine ag_kill_1 ?_
    refine ag_kill_2 ?_
    exact A_X8_isOtherwise_b81 K hN   FU a3 a4 (a1 + (1 : Int32)) s73
  refine ag_iconst (q := 70) (v := 0) dX8_isOtherwise_69 rfl (by decide) ?_
  exact ag_zretK dX8_isOtherwise_70 rfl (by decide) rfl
theorem C_X8_isOtherwise {N : Nat} (hN : NT ≤ N) (a1 : Int32) (a2 : Int32) (a3 : Int32) (a4 : Int32) (σ : Sg) : ∀ r s', J_X8_isOtherwise a1 a2 a3 a4 σ = some (r, s') → AMc yX8_isOtherwise mX8_isOtherwise [.ref 141, .int a1, .int a2, .int a3, .int a4] N R0 σ (some (.int r), N, R0, s') := fun r s' e => AMc.of (L := [some (.ref 141), some (.int a1), some (.int a2), some (.int a3), some (.int a4), none]) (by decide) rfl (fun _ => rfl) (fun _ => Nat.le_of_ble_eq_true rfl) (Nat.le_refl _) (fun K => A_X8_isOtherwise K hN a1 a2 a3 a4 σ _ e)
def J_X8_otherwise_b72  (y37 : Int32 → Int32 → Int32 → Int32 → Int32 → Int32 → Sg → Option (Int32 × Sg)) (y49 : Int32 → Int32 → Int32 → Int32 → Int32 → Int32 → Int32 → Sg → Option (Int32 × Sg)) (x1 : Int32) (x2 : Int32) (x3 : Int32) (x4 : Int32) (x5 : Int32) (x6 : Int32) (x7 : Int32) (σ : Sg) : Option (Int32 × Sg) :=
  (bd2 (J_X8_isOtherwise (((σ 141 11) - (1 : Int32)) - x6) x7 x1 x2 σ) fun r86 s86 => (if r86 = 0 then (y49 x1 x2 x3 x4 x5 x6 (x7 + (1)) s86) else (if x4 = 0 then (y49 x1 x2 x3 (x4 + (1)) (((100 : Int32) * x6) + x7) x6 (x7 + (1)) s86) else (y49 x1 x2 x3 (x4 + (1)) x5 x6 (x7 + (1)) s86))))
set_option maxHeartbeats 4000000 in
theorem A_X8_otherwise_b72 (K : KT) {N : Nat} (hN : NT ≤ N)  (y37 : Int32 → Int32 → Int32 → Int32 → Int32 → Int32 → Sg → Option (Int32 × Sg)) (hy37 : ∀ (x1 : Int32) (x2 : Int32) (x3 : Int32) (x4 : Int32) (x5 : Int32) (x6 : Int32) (σ : Sg), AG K mX8_otherwise N (fun a : Int32 × Sg => (some (.int a.1), N, R0, a.2)) (y37 x1 x2 x3 x4 x5 x6 σ) 37 [some (.ref 141), some (.int x1), some (.int x2), some (.int x3), some (.int x4), some (.int x5), some (.int x6), none] [] σ) (y49 : Int32 → Int32 → Int32 → Int32 → Int32 → Int32 → Int32 → Sg → Option (Int32 × Sg)) (hy49 : ∀ (x1 : Int32) (x2 : Int32) (x3 : Int32) (x4 : Int32) (x5 : Int32) (x6 : Int32) (x7 : Int32) (σ : Sg), AG K mX8_otherwise N (fun a : Int32 × Sg => (some (.int a.1), N, R0, a.2)) (y49 x1 x2 x3 x4 x5 x6 x7 σ) 49 [some (.ref 141), some (.int x1), some (.int x2), some (.int x3), some (.int x4), some (.int x5), some (.int x6), some (.int x7)] [] σ) (x1 : Int32) (x2 : Int32) (x3 : Int32) (x4 : Int32) (x5 : Int32) (x6 : Int32) (x7 : Int32) (σ : Sg) : AG K mX8_otherwise N (fun a : Int32 × Sg => (some (.int a.1), N, R0, a.2)) (J_X8_otherwise_b72  y37 y49 x1 x2 x3 x4 x5 x6 x7 σ) 72 [some (.ref 141), some (.int x1), some (.int x2), some (.int x3), some (.int x4), some (.int x5), some (.int x6), some (.int x7)] [] σ := by
  unfold J_X8_otherwise_b72
  refine ag_aload_0 (q := 73) dX8_otherwise_72 rfl ?_
  refine ag_aload_0 (q := 74) dX8_otherwise_73 rfl ?_
  refine ag_getI (q := 77) dX8_otherwise_74 rfl fl8_175 (Nat.lt_of_lt_of_le (by decide : 141 < NT) hN) (congrArg Prod.fst s_141) rfl ?_
  refine ag_iconst (q := 78) (v := 1) dX8_otherwise_77 rfl (by decide) ?_
  refine ag_isub (q := 79) dX8_otherwise_78 rfl ?_
  refine ag_iload_6 (q := 81) dX8_otherwise_79 rfl ?_
  refine ag_isub (q := 82) dX8_otherwise_81 rfl ?_
  refine ag_iload_7 (q := 84) dX8_otherwise_82 rfl ?_
  refine ag_iload_1 (q := 85) dX8_otherwise_84 rfl ?_
  refine ag_iload_2 (q := 86) dX8_otherwise_85 rfl ?_
  refine ag_callV_mI (q := 89) (av := [.int _, .int _, .int _, .int _]) (rest := []) dX8_otherwise_86 rfl lk8_282 (C_X8_isOtherwise hN (((σ 141 11) - (1 : Int32)) - x6) x7 x1 x2 _) (by decide) (Nat.le_of_ble_eq_true rfl) (Nat.lt_of_lt_of_le (by decide : 141 < NT) hN) (congrArg Prod.fst s_141) (by decide) (fun _ => rfl) (Nat.le_of_ble_eq_true rfl) rfl (fun r86 s86 e86 => ?_)
  refine ag_if_eq (tgt := 115) (q := 92) dX8_otherwise_89 rfl rfl ?_ ?_
  · refine ag_iinc_7 (q := 118) (d := (1)) dX8_otherwise_115 rfl (Nat.le_of_ble_eq_true rfl) rfl (by decide) ?_
    refine ag_goto (q := 49) dX8_otherwise_118 rfl ?_
    exact hy49 x1 x2 x3 x4 x5 x6 (x7 + (1)) s86
  refine ag_iload_4 (q := 94) dX8_otherwise_92 rfl ?_
  refine ag_if_ne (tgt := 108) (q := 97) dX8_otherwise_94 rfl rfl ?_ ?_
  · refine ag_iload_5 (q := 110) dX8_otherwise_108 rfl ?_
    refine ag_istore_5 (q := 112) dX8_otherwise_110 rfl (Nat.le_of_ble_eq_true rfl) rfl ?_
    refine ag_iinc_4 (q := 115) (d := (1)) dX8_otherwise_112 rfl (Nat.le_of_ble_eq_true rfl) rfl (by decide) ?_
    refine ag_iinc_7 (q := 118) (d := (1)) dX8_otherwise_115 rfl (Nat.le_of_ble_eq_true rfl) rfl (by decide) ?_
    refine ag_goto (q := 49) dX8_otherwise_118 rfl ?_
    exact hy49 x1 x2 x3 (x4 + (1)) x5 x6 (x7 + (1)) s86
  refine ag_bipush (q := 99) (v := 100) dX8_otherwise_97 rfl (by decide) ?_
  refine ag_iload_6 (q := 101) dX8_otherwise_99 rfl ?_
  refine ag_imul (q := 102) dX8_otherwise_101 rfl ?_
  refine ag_iload_7 (q := 104) dX8_otherwise_102 rfl ?_
  refine ag_iadd (q := 105) dX8_otherwise_104 rfl ?_
  refine ag_goto (q := 110) dX8_otherwise_105 rfl ?_
  refine ag_istore_5 (q := 112) dX8_otherwise_110 rfl (Nat.le_of_ble_eq_true rfl) rfl ?_
  refine ag_iinc_4 (q := 115) (d := (1)) dX8_otherwise_112 rfl (Nat.le_of_ble_eq_true rfl) rfl (by decide) ?_
  refine ag_iinc_7 (q := 118) (d := (1)) dX8_otherwise_115 rfl (Nat.le_of_ble_eq_true rfl) rfl (by decide) ?_
  refine ag_goto (q := 49) dX8_otherwise_118 rfl ?_
  exact hy49 x1 x2 x3 (x4 + (1)) (((100 : Int32) * x6) + x7) x6 (x7 + (1)) s86
def J_X8_otherwise_b49  (y37 : Int32 → Int32 → Int32 → Int32 → Int32 → Int32 → Sg → Option (Int32 × Sg)) : Nat → Int32 → Int32 → Int32 → Int32 → Int32 → Int32 → Int32 → Sg → Option (Int32 × Sg)
  | 0, _, _, _, _, _, _, _, _ => none
  | k + 1, x1, x2, x3, x4, x5, x6, x7, σ =>
    (if (99 : Int32) < x7 then (y37 x1 x2 x3 x4 x5 (x6 + (1)) σ) else (if (rmI x7 (10 : Int32)) < (4 : Int32) then (J_X8_otherwise_b72  y37 (fun x1 x2 x3 x4 x5 x6 x7 σ => J_X8_otherwise_b49  y37 k x1 x2 x3 x4 x5 x6 x7 σ) x1 x2 x3 x4 x5 x6 x7 σ) else (if x7 = (99 : Int32) then (J_X8_otherwise_b72  y37 (fun x1 x2 x3 x4 x5 x6 x7 σ => J_X8_otherwise_b49  y37 k x1 x2 x3 x4 x5 x6 x7 σ) x1 x2 x3 x4 x5 x6 x7 σ) else (J_X8_otherwise_b49  y37 k x1 x2 x3 x4 x5 x6 (x7 + (1)) σ))))
set_option maxHeartbeats 4000000 in
theorem A_X8_otherwise_b49 (K : KT) {N : Nat} (hN : NT ≤ N)  (y37 : Int32 → Int32 → Int32 → Int32 → Int32 → Int32 → Sg → Option (Int32 × Sg)) (hy37 : ∀ (x1 : Int32) (x2 : Int32) (x3 : Int32) (x4 : Int32) (x5 : Int32) (x6 : Int32) (σ : Sg), AG K mX8_otherwise N (fun a : Int32 × Sg => (some (.int a.1), N, R0, a.2)) (y37 x1 x2 x3 x4 x5 x6 σ) 37 [some (.ref 141), some (.int x1), some (.int x2), some (.int x3), some (.int x4), some (.int x5), some (.int x6), none] [] σ) : ∀ (k : Nat) (x1 : Int32) (x2 : Int32) (x3 : Int32) (x4 : Int32) (x5 : Int32) (x6 : Int32) (x7 : Int32) (σ : Sg), AG K mX8_otherwise N (fun a : Int32 × Sg => (some (.int a.1), N, R0, a.2)) (J_X8_otherwise_b49  y37 k x1 x2 x3 x4 x5 x6 x7 σ) 49 [some (.ref 141), some (.int x1), some (.int x2), some (.int x3), some (.int x4), some (.int x5), some (.int x6), some (.int x7)] [] σ := by
  intro k
  induction k with
  | zero => intro x1 x2 x3 x4 x5 x6 x7 σ; exact ag_none
  | succ k ih =>
    intro x1 x2 x3 x4 x5 x6 x7 σ
    rw [J_X8_otherwise_b49]
    refine ag_iload_7 (q := 51) dX8_otherwise_49 rfl ?_
    refine ag_bipush (q := 53) (v := 99) dX8_otherwise_51 rfl (by decide) ?_
    refine ag_icmp_gt (tgt := 121) (q := 56) dX8_otherwise_53 rfl rfl ?_ ?_
    · refine ag_iinc_6 (q := 124) (d := (1)) dX8_otherwise_121 rfl (Nat.le_of_ble_eq_true rfl) rfl (by decide) ?_
      refine ag_goto (q := 37) dX8_otherwise_124 rfl ?_
      refine ag_kill_7 ?_
      exact hy37 x1 x2 x3 x4 x5 (x6 + (1)) σ
    refine ag_iload_7 (q := 58) dX8_otherwise_56 rfl ?_
    refine ag_bipush (q := 60) (v := 10) dX8_otherwise_58 rfl (by decide) ?_
    refine ag_iremK (q := 61) dX8_otherwise_60 rfl (by decide) ?_
    refine ag_iconst (q := 62) (v := 4) dX8_otherwise_61 rfl (by decide) ?_
    refine ag_icmp_lt (tgt := 72) (q := 65) dX8_otherwise_62 rfl rfl ?_ ?_
    · exact A_X8_otherwise_b72 K hN  y37 hy37 (fun x1 x2 x3 x4 x5 x6 x7 σ => J_X8_otherwise_b49  y37 k x1 x2 x3 x4 x5 x6 x7 σ) (fun x1 x2 x3 x4 x5 x6 x7 σ => ih x1 x2 x3 x4 x5 x6 x7 σ) x1 x2 x3 x4 x5 x6 x7 σ
    refine ag_iload_7 (q := 67) dX8_otherwise_65 rfl ?_
    refine ag_bipush (q := 69) (v := 99) dX8_otherwise_67 rfl (by decide) ?_
    refine ag_icmp_ne (tgt := 115) (q := 72) dX8_otherwise_69 rfl rfl ?_ ?_
    · refine ag_iinc_7 (q := 118) (d := (1)) dX8_otherwise_115 rfl (Nat.le_of_ble_eq_true rfl) rfl (by decide) ?_
      refine ag_goto (q := 49) dX8_otherwise_118 rfl ?_
      exact ih x1 x2 x3 x4 x5 x6 (x7 + (1)) σ
    exact A_X8_otherwise_b72 K hN  y37 hy37 (fun x1 x2 x3 x4 x5 x6 x7 σ => J_X8_otherwise_b49  y37 k x1 x2 x3 x4 x5 x6 x7 σ) (fun x1 x2 x3 x4 x5 x6 x7 σ => ih x1 x2 x3 x4 x5 x6 x7 σ) x1 x2 x3 x4 x5 x6 x7 σ
def J_X8_otherwise_b37  : Nat → Int32 → Int32 → Int32 → Int32 → Int32 → Int32 → Sg → Option (Int32 × Sg)
  | 0, _, _, _, _, _, _, _ => none
  | k + 1, x1, x2, x3, x4, x5, x6, σ =>
    (if (σ 141 11) ≤ x6 then (if x3 = 0 then (some (x4, σ)) else (some (x5, σ))) else (J_X8_otherwise_b49  (fun x1 x2 x3 x4 x5 x6 σ => J_X8_otherwise_b37   k x1 x2 x3 x4 x5 x6 σ) FU x1 x2 x3 x4 x5 x6 (0 : Int32) σ))
set_option maxHeartbeats 4000000 in
theorem A_X8_otherwise_b37 (K : KT) {N : Nat} (hN : NT ≤ N)  : ∀ (k : Nat) (x1 : Int32) (x2 : Int32) (x3 : Int32) (x4 : Int32) (x5 : Int32) (x6 : Int32) (σ : Sg), AG K mX8_otherwise N (fun a : Int32 × Sg => (some (.int a.1), N, R0, a.2)) (J_X8_otherwise_b37   k x1 x2 x3 x4 x5 x6 σ) 37 [some (.ref 141), some (.int x1), some (.int x2), some (.int x3), some (.int x4), some (.int x5), some (.int x6), none] [] σ := by
  intro k
  induction k with
  | zero => intro x1 x2 x3 x4 x5 x6 σ; exact ag_none
  | succ k ih =>
    intro x1 x2 x3 x4 x5 x6 σ
    rw [J_X8_otherwise_b37]
    refine ag_iload_6 (q := 39) dX8_otherwise_37 rfl ?_
    refine ag_aload_0 (q := 40) dX8_otherwise_39 rfl ?_
    refine ag_getI (q := 43) dX8_otherwise_40 rfl fl8_175 (Nat.lt_of_lt_of_le (by decide : 141 < NT) hN) (congrArg Prod.fst s_141) rfl ?_
    refine ag_icmp_ge (tgt := 127) (q := 46) dX8_otherwise_43 rfl rfl ?_ ?_
    · refine ag_iload_3 (q := 128) dX8_otherwise_127 rfl ?_
      refine ag_if_ne (tgt := 136) (q := 131) dX8_otherwise_128 rfl rfl ?_ ?_
      · refine ag_iload_5 (q := 138) dX8_otherwise_136 rfl ?_
        exact ag_iret dX8_otherwise_138 rfl rfl
      refine ag_iload_4 (q := 133) dX8_otherwise_131 rfl ?_
      refine ag_goto (q := 138) dX8_otherwise_133 rfl ?_
      exact ag_iret dX8_otherwise_138 rfl rfl
    refine ag_iconst (q := 47) (v := 0) dX8_otherwise_46 rfl (by decide) ?_
    refine ag_istore_7 (q := 49) dX8_otherwise_47 rfl (Nat.le_of_ble_eq_true rfl) rfl ?_
    exact A_X8_otherwise_b49 K hN  (fun x1 x2 x3 x4 x5 x6 σ => J_X8_otherwise_b37   k x1 x2 x3 x4 x5 x6 σ) (fun x1 x2 x3 x4 x5 x6 σ => ih x1 x2 x3 x4 x5 x6 σ) FU x1 x2 x3 x4 x5 x6 (0 : Int32) σ
def J_X8_otherwise (a1 : Int32) (a2 : Int32) (a3 : Int32) (σ : Sg) : Option (Int32 × Sg) :=
  (bd1 (J_X8_isBeast a1 σ) fun r2 => (if r2 = 0 then (some ((-1 : Int32), σ)) else (bd1 (J_X8_isSquare a2 σ) fun r10 => (if r10 = 0 then (some ((-1 : Int32), σ)) else (bd1 (J_X8_in a3 (0 : Int32) (1 : Int32) σ) fun r19 => (if r19 = 0 then (some ((-1 : Int32), σ)) else (J_X8_otherwise_b37   FU a1 a2 a3 (0 : Int32) (-4 : Int32) (0 : Int32) σ)))))))
set_option maxHeartbeats 4000000 in
theorem A_X8_otherwise (K : KT) {N : Nat} (hN : NT ≤ N) (a1 : Int32) (a2 : Int32) (a3 : Int32) (σ : Sg) : AG K mX8_otherwise N (fun a : Int32 × Sg => (some (.int a.1), N, R0, a.2)) (J_X8_otherwise a1 a2 a3 σ) 0 [some (.ref 141), some (.int a1), some (.int a2), some (.int a3), none, none, none, none] [] σ := by
  unfold J_X8_otherwise
  refine ag_aload_0 (q := 1) dX8_otherwise_0 rfl ?_
  refine ag_iload_1 (q := 2) dX8_otherwise_1 rfl ?_
  refine ag_callV_pI (q := 5) (av := [.int _]) (rest := []) dX8_otherwise_2 rfl lk8_231 (C_X8_isBeast hN a1 _) (by decide) (Nat.le_of_ble_eq_true rfl) (Nat.lt_of_lt_of_le (by decide : 141 < NT) hN) (congrArg Prod.fst s_141) (by decide) (fun _ => rfl) (Nat.le_of_ble_eq_true rfl) rfl (fun r2 e2 => ?_)
  refine ag_if_eq (tgt := 25) (q := 8) dX8_otherwise_5 rfl rfl ?_ ?_
  · refine ag_iconst (q := 26) (v := -1) dX8_otherwise_25 rfl (by decide) ?_
    exact ag_iret dX8_otherwise_26 rfl rfl
  refine ag_aload_0 (q := 9) dX8_otherwise_8 rfl ?_
  refine ag_iload_2 (q := 10) dX8_otherwise_9 rfl ?_
  refine ag_callV_pI (q := 13) (av := [.int _]) (rest := []) dX8_otherwise_10 rfl lk8_225 (C_X8_isSquare hN a2 _) (by decide) (Nat.le_of_ble_eq_true rfl) (Nat.lt_of_lt_of_le (by decide : 141 < NT) hN) (congrArg Prod.fst s_141) (by decide) (fun _ => rfl) (Nat.le_of_ble_eq_true rfl) rfl (fun r10 e10 => ?_)
  refine ag_if_eq (tgt := 25) (q := 16) dX8_otherwise_13 rfl rfl ?_ ?_
  · refine ag_iconst (q := 26) (v := -1) dX8_otherwise_25 rfl (by decide) ?_
    exact ag_iret dX8_otherwise_26 rfl rfl
  refine ag_iload_3 (q := 17) dX8_otherwise_16 rfl ?_
  refine ag_iconst (q := 18) (v := 0) dX8_otherwise_17 rfl (by decide) ?_
  refine ag_iconst (q := 19) (v := 1) dX8_otherwise_18 rfl (by decide) ?_
  refine ag_callS_pI (q := 22) (av := [.int _, .int _, .int _]) (rest := []) dX8_otherwise_19 rfl lk8_115 (C_X8_in hN a3 (0 : Int32) (1 : Int32) _) (by decide) (Nat.le_of_ble_eq_true rfl) (fun _ => rfl) (Nat.le_of_ble_eq_true rfl) rfl (fun r19 e19 => ?_)
  refine ag_if_ne (tgt := 27) (q := 25) dX8_otherwise_22 rfl rfl ?_ ?_
  · refine ag_iconst (q := 28) (v := 0) dX8_otherwise_27 rfl (by decide) ?_
    refine ag_istore_4 (q := 30) dX8_otherwise_28 rfl (Nat.le_of_ble_eq_true rfl) rfl ?_
    refine ag_bipush (q := 32) (v := -4) dX8_otherwise_30 rfl (by decide) ?_
    refine ag_istore_5 (q := 34) dX8_otherwise_32 rfl (Nat.le_of_ble_eq_true rfl) rfl ?_
    refine ag_iconst (q := 35) (v := 0) dX8_otherwise_34 rfl (by decide) ?_
    refine ag_istore_6 (q := 37) dX8_otherwise_35 rfl (Nat.le_of_ble_eq_true rfl) rfl ?_
    exact A_X8_otherwise_b37 K hN   FU a1 a2 a3 (0 : Int32) (-4 : Int32) (0 : Int32) σ
  refine ag_iconst (q := 26) (v := -1) dX8_otherwise_25 rfl (by decide) ?_
  exact ag_iret dX8_otherwise_26 rfl rfl
theorem C_X8_otherwise {N : Nat} (hN : NT ≤ N) (a1 : Int32) (a2 : Int32) (a3 : Int32) (σ : Sg) : ∀ r s', J_X8_otherwise a1 a2 a3 σ = some (r, s') → AMc yX8_otherwise mX8_otherwise [.ref 141, .int a1, .int a2, .int a3] N R0 σ (some (.int r), N, R0, s') := fun r s' e => AMc.of (L := [some (.ref 141), some (.int a1), some (.int a2), some (.int a3), none, none, none, none]) (by decide) rfl (fun _ => rfl) (fun _ => Nat.le_of_ble_eq_true rfl) (Nat.le_refl _) (fun K => A_X8_otherwise K hN a1 a2 a3 σ _ e)
def J_X8_isNearBog_b4  : Nat → Int32 → Int32 → Int32 → Sg → Option Int32
  | 0, _, _, _, _ => none
  | k + 1, x1, x2, x3, σ =>
    (if (4 : Int32) ≤ x3 then (if x2 = 0 ∨ x2 = 1 then some x2 else none) else (bd1 (J_X8_nextTo x1 x3 σ) fun r12 => (if x2 = 0 then (if r12 < 0 then (J_X8_isNearBog_b4   k x1 (0 : Int32) (x3 + (1)) σ) else (if inb r12 36 = true then (if (σ 142 r12.toNatClampNeg) = (9 : Int32) then (J_X8_isNearBog_b4   k x1 (1 : Int32) (x3 + (1)) σ) else (J_X8_isNearBog_b4   k x1 (0 : Int32) (x3 + (1)) σ)) else none)) else (J_X8_isNearBog_b4   k x1 (1 : Int32) (x3 + (1)) σ))))
set_option maxHeartbeats 4000000 in
theorem A_X8_isNearBog_b4 (K : KT) {N : Nat} (hN : NT ≤ N)  : ∀ (k : Nat) (x1 : Int32) (x2 : Int32) (x3 : Int32) (σ : Sg), AG K mX8_isNearBog N (fun a : Int32 => (some (.int a), N, R0, σ)) (J_X8_isNearBog_b4   k x1 x2 x3 σ) 4 [some (.ref 141), some (.int x1), some (.int x2), some (.int x3), none] [] σ := by
  intro k
  induction k with
  | zero => intro x1 x2 x3 σ; exact ag_none
  | succ k ih =>
    intro x1 x2 x3 σ
    rw [J_X8_isNearBog_b4]
    refine ag_iload_3 (q := 5) dX8_isNearBog_4 rfl ?_
    refine ag_iconst (q := 6) (v := 4) dX8_isNearBog_5 rfl (by decide) ?_
    refine ag_icmp_ge (tgt := 50) (q := 9) dX8_isNearBog_6 rfl rfl ?_ ?_
    · refine ag_iload_2 (q := 51) dX8_isNearBog_50 rfl ?_
      exact ag_zret dX8_isNearBog_51 rfl rfl
    refine ag_aload_0 (q := 10) dX8_isNearBog_9 rfl ?_
    refine ag_iload_1 (q := 11) dX8_isNearBog_10 rfl ?_
    refine ag_iload_3 (q := 12) dX8_isNearBog_11 rfl ?_
    refine ag_callV_pI (q := 15) (av := [.int _, .int _]) (rest := []) dX8_isNearBog_12 rfl lk8_185 (C_X8_nextTo hN x1 x3 _) (by decide) (Nat.le_of_ble_eq_true rfl) (Nat.lt_of_lt_of_le (by decide : 141 < NT) hN) (congrArg Prod.fst s_141) (by decide) (fun _ => rfl) (Nat.le_of_ble_eq_true rfl) rfl (fun r12 e12 => ?_)
    refine ag_istore_4 (q := 17) dX8_isNearBog_15 rfl (Nat.le_of_ble_eq_true rfl) rfl ?_
    refine ag_iload_2 (q := 18) dX8_isNearBog_17 rfl ?_
    refine ag_if_ne (tgt := 38) (q := 21) dX8_isNearBog_18 rfl rfl ?_ ?_
    · refine ag_iconst (q := 39) (v := 1) dX8_isNearBog_38 rfl (by decide) ?_
      refine ag_goto (q := 43) dX8_isNearBog_39 rfl ?_
      refine ag_istore_2 (q := 44) dX8_isNearBog_43 rfl (Nat.le_of_ble_eq_true rfl) rfl ?_
      refine ag_iinc_3 (q := 47) (d := (1)) dX8_isNearBog_44 rfl (Nat.le_of_ble_eq_true rfl) rfl (by decide) ?_
      refine ag_goto (q := 4) dX8_isNearBog_47 rfl ?_
      refine ag_kill_4 ?_
      exact ih x1 (1 : Int32) (x3 + (1)) σ
    refine ag_iload_4 (q := 23) dX8_isNearBog_21 rfl ?_
    refine ag_if_lt (tgt := 42) (q := 26) dX8_isNearBog_23 rfl rfl ?_ ?_
    · refine ag_iconst (q := 43) (v := 0) dX8_isNearBog_42 rfl (by decide) ?_
      refine ag_istore_2 (q := 44) dX8_isNearBog_43 rfl (Nat.le_of_ble_eq_true rfl) rfl ?_
      refine ag_iinc_3 (q := 47) (d := (1)) dX8_isNearBog_44 rfl (Nat.le_of_ble_eq_true rfl) rfl (by decide) ?_
      refine ag_goto (q := 4) dX8_isNearBog_47 rfl ?_
      refine ag_kill_4 ?_
      exact ih x1 (0 : Int32) (x3 + (1)) σ
    refine ag_aload_0 (q := 27) dX8_isNearBog_26 rfl ?_
    refine ag_getR (q := 30) dX8_isNearBog_27 rfl fl8_7 (Nat.lt_of_lt_of_le (by decide : 141 < NT) hN) (congrArg Prod.fst s_141) rfl r_141_2 ?_
    refine ag_iload_4 (q := 32) dX8_isNearBog_30 rfl ?_
    refine ag_iald (q := 33) dX8_isNearBog_32 rfl (Nat.lt_of_lt_of_le (by decide : 142 < NT) hN) s_142 ?_
    refine ag_bipush (q := 35) (v := 9) dX8_isNearBog_33 rfl (by decide) ?_
    refine ag_icmp_ne (tgt := 42) (q := 38) dX8_isNearBog_35 rfl rfl ?_ ?_
    · refine ag_iconst (q := 43) (v := 0) dX8_isNearBog_42 rfl (by decide) ?_
      refine ag_istore_2 (q := 44) dX8_isNearBog_43 rfl (Nat.le_of_ble_eq_true rfl) rfl ?_
      refine ag_iinc_3 (q := 47) (d := (1)) dX8_isNearBog_44 rfl (Nat.le_of_ble_eq_true rfl) rfl (by decide) ?_
      refine ag_goto (q := 4) dX8_isNearBog_47 rfl ?_
      refine ag_kill_4 ?_
      exact ih x1 (0 : Int32) (x3 + (1)) σ
    refine ag_iconst (q := 39) (v := 1) dX8_isNearBog_38 rfl (by decide) ?_
    refine ag_goto (q := 43) dX8_isNearBog_39 rfl ?_
    refine ag_istore_2 (q := 44) dX8_isNearBog_43 rfl (Nat.le_of_ble_eq_true rfl) rfl ?_
    refine ag_iinc_3 (q := 47) (d := (1)) dX8_isNearBog_44 rfl (Nat.le_of_ble_eq_true rfl) rfl (by decide) ?_
    refine ag_goto (q := 4) dX8_isNearBog_47 rfl ?_
    refine ag_kill_4 ?_
    exact ih x1 (1 : Int32) (x3 + (1)) σ
def J_X8_isNearBog (a1 : Int32) (σ : Sg) : Option Int32 :=
  (J_X8_isNearBog_b4   FU a1 (0 : Int32) (0 : Int32) σ)
set_option maxHeartbeats 4000000 in
theorem A_X8_isNearBog (K : KT) {N : Nat} (hN : NT ≤ N) (a1 : Int32) (σ : Sg) : AG K mX8_isNearBog N (fun a : Int32 => (some (.int a), N, R0, σ)) (J_X8_isNearBog a1 σ) 0 [some (.ref 141), some (.int a1), none, none, none] [] σ := by
  unfold J_X8_isNearBog
  refine ag_iconst (q := 1) (v := 0) dX8_isNearBog_0 rfl (by decide) ?_
  refine ag_istore_2 (q := 2) dX8_isNearBog_1 rfl (Nat.le_of_ble_eq_true rfl) rfl ?_
  refine ag_iconst (q := 3) (v := 0) dX8_isNearBog_2 rfl (by decide) ?_
  refine ag_istore_3 (q := 4) dX8_isNearBog_3 rfl (Nat.le_of_ble_eq_true rfl) rfl ?_
  exact A_X8_isNearBog_b4 K hN   FU a1 (0 : Int32) (0 : Int32) σ
theorem C_X8_isNearBog {N : Nat} (hN : NT ≤ N) (a1 : Int32) (σ : Sg) : ∀ r, J_X8_isNearBog a1 σ = some r → AMc yX8_isNearBog mX8_isNearBog [.ref 141, .int a1] N R0 σ (some (.int r), N, R0, σ) := fun r e => AMc.of (L := [some (.ref 141), some (.int a1), none, none, none]) (by decide) rfl (fun _ => rfl) (fun _ => Nat.le_of_ble_eq_true rfl) (Nat.le_refl _) (fun K => A_X8_isNearBog K hN a1 σ _ e)
def J_X8_wolf_b2  : Nat → Int32 → Sg → Option (Unit × Sg)
  | 0, _, _ => none
  | k + 1, x1, σ =>
    (if (σ 141 3) ≤ x1 then (some ((), σ)) else (if inb ((37 : Int32) + x1) 54 = true then (if (σ 157 ((37 : Int32) + x1).toNatClampNeg) = (36 : Int32) then (J_X8_wolf_b2   k (x1 + (1)) σ) else (if inb ((37 : Int32) + x1) 54 = true then (bd1 (J_X8_isNearBog (σ 157 ((37 : Int32) + x1).toNatClampNeg) σ) fun r34 => (if r34 = 0 then (J_X8_wolf_b2   k (x1 + (1)) σ) else (if inb ((37 : Int32) + x1) 54 = true then (some ((), (up σ 157 ((37 : Int32) + x1).toNatClampNeg (36 : Int32)))) else none))) else none)) else none))
set_option maxHeartbeats 4000000 in
theorem A_X8_wolf_b2 (K : KT) {N : Nat} (hN : NT ≤ N)  : ∀ (k : Nat) (x1 : Int32) (σ : Sg), AG K mX8_wolf N (fun a : Unit × Sg => (none, N, R0, a.2)) (J_X8_wolf_b2   k x1 σ) 2 [some (.ref 141), some (.int x1)] [] σ := by
  intro k
  induction k with
  | zero => intro x1 σ; exact ag_none
  | succ k ih =>
    intro x1 σ
    rw [J_X8_wolf_b2]
    refine ag_iload_1 (q := 3) dX8_wolf_2 rfl ?_
    refine ag_aload_0 (q := 4) dX8_wolf_3 rfl ?_
    refine ag_getI (q := 7) dX8_wolf_4 rfl fl8_112 (Nat.lt_of_lt_of_le (by decide : 141 < NT) hN) (congrArg Prod.fst s_141) rfl ?_
    refine ag_icmp_ge (tgt := 58) (q := 10) dX8_wolf_7 rfl rfl ?_ ?_
    · exact ag_vret dX8_wolf_58 rfl rfl
    refine ag_aload_0 (q := 11) dX8_wolf_10 rfl ?_
    refine ag_getR (q := 14) dX8_wolf_11 rfl fl8_55 (Nat.lt_of_lt_of_le (by decide : 141 < NT) hN) (congrArg Prod.fst s_141) rfl r_141_31 ?_
    refine ag_bipush (q := 16) (v := 37) dX8_wolf_14 rfl (by decide) ?_
    refine ag_iload_1 (q := 17) dX8_wolf_16 rfl ?_
    refine ag_iadd (q := 18) dX8_wolf_17 rfl ?_
    refine ag_iald (q := 19) dX8_wolf_18 rfl (Nat.lt_of_lt_of_le (by decide : 157 < NT) hN) s_157 ?_
    refine ag_bipush (q := 21) (v := 36) dX8_wolf_19 rfl (by decide) ?_
    refine ag_icmp_eq (tgt := 52) (q := 24) dX8_wolf_21 rfl rfl ?_ ?_
    · refine ag_iinc_1 (q := 55) (d := (1)) dX8_wolf_52 rfl (Nat.le_of_ble_eq_true rfl) rfl (by decide) ?_
      refine ag_goto (q := 2) dX8_wolf_55 rfl ?_
      exact ih (x1 + (1)) σ
    refine ag_aload_0 (q := 25) dX8_wolf_24 rfl ?_
    refine ag_aload_0 (q := 26) dX8_wolf_25 rfl ?_
    refine ag_getR (q := 29) dX8_wolf_26 rfl fl8_55 (Nat.lt_of_lt_of_le (by decide : 141 < NT) hN) (congrArg Prod.fst s_141) rfl r_141_31 ?_
    refine ag_bipush (q := 31) (v := 37) dX8_wolf_29 rfl (by decide) ?_
    refine ag_iload_1 (q := 32) dX8_wolf_31 rfl ?_
    refine ag_iadd (q := 33) dX8_wolf_32 rfl ?_
    refine ag_iald (q := 34) dX8_wolf_33 rfl (Nat.lt_of_lt_of_le (by decide : 157 < NT) hN) s_157 ?_
    refine ag_callV_pI (q := 37) (av := [.int _]) (rest := []) dX8_wolf_34 rfl lk8_286 (C_X8_isNearBog hN (σ 157 ((37 : Int32) + x1).toNatClampNeg) _) (by decide) (Nat.le_of_ble_eq_true rfl) (Nat.lt_of_lt_of_le (by decide : 141 < NT) hN) (congrArg Prod.fst s_141) (by decide) (fun _ => rfl) (Nat.le_of_ble_eq_true rfl) rfl (fun r34 e34 => ?_)
    refine ag_if_eq (tgt := 52) (q := 40) dX8_wolf_37 rfl rfl ?_ ?_
    · refine ag_iinc_1 (q := 55) (d := (1)) dX8_wolf_52 rfl (Nat.le_of_ble_eq_true rfl) rfl (by decide) ?_
      refine ag_goto (q := 2) dX8_wolf_55 rfl ?_
      exact ih (x1 + (1)) σ
    refine ag_aload_0 (q := 41) dX8_wolf_40 rfl ?_
    refine ag_getR (q := 44) dX8_wolf_41 rfl fl8_55 (Nat.lt_of_lt_of_le (by decide : 141 < NT) hN) (congrArg Prod.fst s_141) rfl r_141_31 ?_
    refine ag_bipush (q := 46) (v := 37) dX8_wolf_44 rfl (by decide) ?_
    refine ag_iload_1 (q := 47) dX8_wolf_46 rfl ?_
    refine ag_iadd (q := 48) dX8_wolf_47 rfl ?_
    refine ag_bipush (q := 50) (v := 36) dX8_wolf_48 rfl (by decide) ?_
    refine ag_iast (q := 51) dX8_wolf_50 rfl (Nat.lt_of_lt_of_le (by decide : 157 < NT) hN) s_157 ?_
    exact ag_vret dX8_wolf_51 rfl rfl
def J_X8_wolf  (σ : Sg) : Option (Unit × Sg) :=
  (J_X8_wolf_b2   FU (0 : Int32) σ)
set_option maxHeartbeats 4000000 in
theorem A_X8_wolf (K : KT) {N : Nat} (hN : NT ≤ N)  (σ : Sg) : AG K mX8_wolf N (fun a : Unit × Sg => (none, N, R0, a.2)) (J_X8_wolf  σ) 0 [some (.ref 141), none] [] σ := by
  unfold J_X8_wolf
  refine ag_iconst (q := 1) (v := 0) dX8_wolf_0 rfl (by decide) ?_
  refine ag_istore_1 (q := 2) dX8_wolf_1 rfl (Nat.le_of_ble_eq_true rfl) rfl ?_
  exact A_X8_wolf_b2 K hN   FU (0 : Int32) σ
theorem C_X8_wolf {N : Nat} (hN : NT ≤ N)  (σ : Sg) : ∀ r s', J_X8_wolf  σ = some (r, s') → AMc yX8_wolf mX8_wolf [.ref 141] N R0 σ (none, N, R0, s') := fun r s' e => AMc.of (L := [some (.ref 141), none]) (by decide) rfl (fun _ => rfl) (fun _ => Nat.le_of_ble_eq_true rfl) (Nat.le_refl _) (fun K => A_X8_wolf K hN  σ _ e)
def J_X8_lowest_b5  : Nat → Int32 → Int32 → Int32 → Int32 → Int32 → Sg → Option Int32
  | 0, _, _, _, _, _, _ => none
  | k + 1, x0, x1, x2, x3, x4, σ =>
    (if x4 ≤ 0 then (if x2 = 0 then (if x3 = 0 then none else (some (x0 / x3))) else (if x3 = 0 then none else (some (x1 / x3)))) else (if x4 = 0 then none else (J_X8_lowest_b5   k x0 x1 x2 x4 (rmI x3 x4) σ)))
set_option maxHeartbeats 4000000 in
theorem A_X8_lowest_b5 (K : KT) {N : Nat} (hN : NT ≤ N)  : ∀ (k : Nat) (x0 : Int32) (x1 : Int32) (x2 : Int32) (x3 : Int32) (x4 : Int32) (σ : Sg), AG K mX8_lowest N (fun a : Int32 => (some (.int a), N, R0, σ)) (J_X8_lowest_b5   k x0 x1 x2 x3 x4 σ) 5 [some (.int x0), some (.int x1), some (.int x2), some (.int x3), some (.int x4), none] [] σ := by
  intro k
  induction k with
  | zero => intro x0 x1 x2 x3 x4 σ; exact ag_none
  | succ k ih =>
    intro x0 x1 x2 x3 x4 σ
    rw [J_X8_lowest_b5]
    refine ag_iload_4 (q := 7) dX8_lowest_5 rfl ?_
    refine ag_if_le (tgt := 26) (q := 10) dX8_lowest_7 rfl rfl ?_ ?_
    · refine ag_iload_2 (q := 27) dX8_lowest_26 rfl ?_
      refine ag_if_ne (tgt := 34) (q := 30) dX8_lowest_27 rfl rfl ?_ ?_
      · refine ag_iload_1 (q := 35) dX8_lowest_34 rfl ?_
        refine ag_iload_3 (q := 36) dX8_lowest_35 rfl ?_
        refine ag_idiv (q := 37) dX8_lowest_36 rfl ?_
        exact ag_iret dX8_lowest_37 rfl rfl
      refine ag_iload_0 (q := 31) dX8_lowest_30 rfl ?_
      refine ag_goto (q := 35) dX8_lowest_31 rfl ?_
      refine ag_iload_3 (q := 36) dX8_lowest_35 rfl ?_
      refine ag_idiv (q := 37) dX8_lowest_36 rfl ?_
      exact ag_iret dX8_lowest_37 rfl rfl
    refine ag_iload_3 (q := 11) dX8_lowest_10 rfl ?_
    refine ag_iload_4 (q := 13) dX8_lowest_11 rfl ?_
    refine ag_irem (q := 14) dX8_lowest_13 rfl ?_
    refine ag_istore_5 (q := 16) dX8_lowest_14 rfl (Nat.le_of_ble_eq_true rfl) rfl ?_
    refine ag_iload_4 (q := 18) dX8_lowest_16 rfl ?_
    refine ag_istore_3 (q := 19) dX8_lowest_18 rfl (Nat.le_of_ble_eq_true rfl) rfl ?_
    refine ag_iload_5 (q := 21) dX8_lowest_19 rfl ?_
    refine ag_istore_4 (q := 23) dX8_lowest_21 rfl (Nat.le_of_ble_eq_true rfl) rfl ?_
    refine ag_goto (q := 5) dX8_lowest_23 rfl ?_
    refine ag_kill_5 ?_
    exact ih x0 x1 x2 x4 (rmI x3 x4) σ
def J_X8_lowest (a0 : Int32) (a1 : Int32) (a2 : Int32) (σ : Sg) : Option Int32 :=
  (J_X8_lowest_b5   FU a0 a1 a2 a0 a1 σ)
set_option maxHeartbeats 4000000 in
theorem A_X8_lowest (K : KT) {N : Nat} (hN : NT ≤ N) (a0 : Int32) (a1 : Int32) (a2 : Int32) (σ : Sg) : AG K mX8_lowest N (fun a : Int32 => (some (.int a), N, R0, σ)) (J_X8_lowest a0 a1 a2 σ) 0 [some (.int a0), some (.int a1), some (.int a2), none, none, none] [] σ := by
  unfold J_X8_lowest
  refine ag_iload_0 (q := 1) dX8_lowest_0 rfl ?_
  refine ag_istore_3 (q := 2) dX8_lowest_1 rfl (Nat.le_of_ble_eq_true rfl) rfl ?_
  refine ag_iload_1 (q := 3) dX8_lowest_2 rfl ?_
  refine ag_istore_4 (q := 5) dX8_lowest_3 rfl (Nat.le_of_ble_eq_true rfl) rfl ?_
  exact A_X8_lowest_b5 K hN   FU a0 a1 a2 a0 a1 σ
theorem C_X8_lowest {N : Nat} (hN : NT ≤ N) (a0 : Int32) (a1 : Int32) (a2 : Int32) (σ : Sg) : ∀ r, J_X8_lowest a0 a1 a2 σ = some r → AMc yX8_lowest mX8_lowest [.int a0, .int a1, .int a2] N R0 σ (some (.int r), N, R0, σ) := fun r e => AMc.of (L := [some (.int a0), some (.int a1), some (.int a2), none, none, none]) (by decide) rfl (fun _ => rfl) (fun _ => Nat.le_of_ble_eq_true rfl) (Nat.le_refl _) (fun K => A_X8_lowest K hN a0 a1 a2 σ _ e)
