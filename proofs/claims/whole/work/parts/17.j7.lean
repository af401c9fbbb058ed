def J_X8_looksAt (a1 : Int32) (a2 : Int32) (σ : Sg) : Option (Int32 × Sg) :=
  (bd1 (J_X8_isBeast a1 σ) fun r2 => (if r2 = 0 then (some ((-1 : Int32), σ)) else (bd1 (J_X8_in a2 (0 : Int32) (3 : Int32) σ) fun r11 => (if r11 = 0 then (some ((-1 : Int32), σ)) else (if inb ((37 : Int32) + a1) 54 = true then (if (σ 146 ((37 : Int32) + a1).toNatClampNeg) = (36 : Int32) then (some ((-2 : Int32), σ)) else (bd2 (J_X8_asItIs  σ) fun r37 s37 => (some ((0 : Int32), s37)))) else none)))))
set_option maxHeartbeats 4000000 in
theorem A_X8_looksAt (K : KT) {N : Nat} (hN : NT ≤ N) (a1 : Int32) (a2 : Int32) (σ : Sg) : AG K mX8_looksAt N (fun a : Int32 × Sg => (some (.int a.1), N, R0, a.2)) (J_X8_looksAt a1 a2 σ) 0 [some (.ref 141), some (.int a1), some (.int a2)] [] σ := by
  unfold J_X8_looksAt
  refine ag_aload_0 (q := 1) dX8_looksAt_0 rfl ?_
  refine ag_iload_1 (q := 2) dX8_looksAt_1 rfl ?_
  refine ag_callV_pI (q := 5) (av := [.int _]) (rest := []) dX8_looksAt_2 rfl lk8_231 (C_X8_isBeast hN a1 _) (by decide) (Nat.le_of_ble_eq_true rfl) (Nat.lt_of_lt_of_le (by decide : 141 < NT) hN) (congrArg Prod.fst s_141) (by decide) (fun _ => rfl) (Nat.le_of_ble_eq_true rfl) rfl (fun r2 e2 => ?_)
  refine ag_if_eq (tgt := 17) (q := 8) dX8_looksAt_5 rfl rfl ?_ ?_
  · refine ag_iconst (q := 18) (v := -1) dX8_looksAt_17 rfl (by decide) ?_
    exact ag_iret dX8_looksAt_18 rfl rfl
  refine ag_iload_2 (q := 9) dX8_looksAt_8 rfl ?_
  refine ag_iconst (q := 10) (v := 0) dX8_looksAt_9 rfl (by decide) ?_
  refine ag_iconst (q := 11) (v := 3) dX8_looksAt_10 rfl (by decide) ?_
  refine ag_callS_pI (q := 14) (av := [.int _, .int _, .int _]) (rest := []) dX8_looksAt_11 rfl lk8_115 (C_X8_in hN a2 (0 : Int32) (3 : Int32) _) (by decide) (Nat.le_of_ble_eq_true rfl) (fun _ => rfl) (Nat.le_of_ble_eq_true rfl) rfl (fun r11 e11 => ?_)
  refine ag_if_ne (tgt := 19) (q := 17) dX8_looksAt_14 rfl rfl ?_ ?_
  · refine ag_aload_0 (q := 20) dX8_looksAt_19 rfl ?_
    refine ag_getR (q := 23) dX8_looksAt_20 rfl fl8_22 (Nat.lt_of_lt_of_le (by decide : 141 < NT) hN) (congrArg Prod.fst s_141) rfl r_141_10 ?_
    refine ag_bipush (q := 25) (v := 37) dX8_looksAt_23 rfl (by decide) ?_
    refine ag_iload_1 (q := 26) dX8_looksAt_25 rfl ?_
    refine ag_iadd (q := 27) dX8_looksAt_26 rfl ?_
    refine ag_iald (q := 28) dX8_looksAt_27 rfl (Nat.lt_of_lt_of_le (by decide : 146 < NT) hN) s_146 ?_
    refine ag_bipush (q := 30) (v := 36) dX8_looksAt_28 rfl (by decide) ?_
    refine ag_icmp_ne (tgt := 36) (q := 33) dX8_looksAt_30 rfl rfl ?_ ?_
    · refine ag_aload_0 (q := 37) dX8_looksAt_36 rfl ?_
      refine ag_callV_mU (q := 40) (av := []) (rest := []) dX8_looksAt_37 rfl lk8_228 (C_X8_asItIs hN  _) (by decide) (Nat.le_of_ble_eq_true rfl) (Nat.lt_of_lt_of_le (by decide : 141 < NT) hN) (congrArg Prod.fst s_141) (by decide) (fun _ => rfl) (Nat.le_of_ble_eq_true rfl) rfl (fun r37 s37 e37 => ?_)
      refine ag_iconst (q := 41) (v := 0) dX8_looksAt_40 rfl (by decide) ?_
      exact ag_iret dX8_looksAt_41 rfl rfl
    refine ag_bipush (q := 35) (v := -2) dX8_looksAt_33 rfl (by decide) ?_
    exact ag_iret dX8_looksAt_35 rfl rfl
  refine ag_iconst (q := 18) (v := -1) dX8_looksAt_17 rfl (by decide) ?_
  exact ag_iret dX8_looksAt_18 rfl rfl
theorem C_X8_looksAt {N : Nat} (hN : NT ≤ N) (a1 : Int32) (a2 : Int32) (σ : Sg) : ∀ r s', J_X8_looksAt a1 a2 σ = some (r, s') → AMc yX8_looksAt mX8_looksAt [.ref 141, .int a1, .int a2] N R0 σ (some (.int r), N, R0, s') := fun r s' e => AMc.of (L := [some (.ref 141), some (.int a1), some (.int a2)]) (by decide) rfl (fun _ => rfl) (fun _ => Nat.le_of_ble_eq_true rfl) (Nat.le_refl _) (fun K => A_X8_looksAt K hN a1 a2 σ _ e)
def J_X8_goes (a1 : Int32) (a2 : Int32) (σ : Sg) : Option (Int32 × Sg) :=
  (bd2 (J_X8_looksAt a1 a2 σ) fun r3 s3 => (if 0 ≤ r3 then (bd2 (J_X8_comesTo a1 a2 (1 : Int32) s3) fun r19 s19 => (some (r19, s19))) else (some (r3, s3))))
set_option maxHeartbeats 4000000 in
theorem A_X8_goes (K : KT) {N : Nat} (hN : NT ≤ N) (a1 : Int32) (a2 : Int32) (σ : Sg) : AG K mX8_goes N (fun a : Int32 × Sg => (some (.int a.1), N, R0, a.2)) (J_X8_goes a1 a2 σ) 0 [some (.ref 141), some (.int a1), some (.int a2), none] [] σ := by
  unfold J_X8_goes
  refine ag_aload_0 (q := 1) dX8_goes_0 rfl ?_
  refine ag_iload_1 (q := 2) dX8_goes_1 rfl ?_
  refine ag_iload_2 (q := 3) dX8_goes_2 rfl ?_
  refine ag_callV_mI (q := 6) (av := [.int _, .int _]) (rest := []) dX8_goes_3 rfl lk8_237 (C_X8_looksAt hN a1 a2 _) (by decide) (Nat.le_of_ble_eq_true rfl) (Nat.lt_of_lt_of_le (by decide : 141 < NT) hN) (congrArg Prod.fst s_141) (by decide) (fun _ => rfl) (Nat.le_of_ble_eq_true rfl) rfl (fun r3 s3 e3 => ?_)
  refine ag_istore_3 (q := 7) dX8_goes_6 rfl (Nat.le_of_ble_eq_true rfl) rfl ?_
  refine ag_iload_3 (q := 8) dX8_goes_7 rfl ?_
  refine ag_if_ge (tgt := 15) (q := 11) dX8_goes_8 rfl rfl ?_ ?_
  · refine ag_aload_0 (q := 16) dX8_goes_15 rfl ?_
    refine ag_iload_1 (q := 17) dX8_goes_16 rfl ?_
    refine ag_iload_2 (q := 18) dX8_goes_17 rfl ?_
    refine ag_iconst (q := 19) (v := 1) dX8_goes_18 rfl (by decide) ?_
    refine ag_callV_mI (q := 22) (av := [.int _, .int _, .int _]) (rest := []) dX8_goes_19 rfl lk8_208 (C_X8_comesTo hN a1 a2 (1 : Int32) _) (by decide) (Nat.le_of_ble_eq_true rfl) (Nat.lt_of_lt_of_le (by decide : 141 < NT) hN) (congrArg Prod.fst s_141) (by decide) (fun _ => rfl) (Nat.le_of_ble_eq_true rfl) rfl (fun r19 s19 e19 => ?_)
    exact ag_iret dX8_goes_22 rfl rfl
  refine ag_iload_3 (q := 12) dX8_goes_11 rfl ?_
  refine ag_goto (q := 22) dX8_goes_12 rfl ?_
  exact ag_iret dX8_goes_22 rfl rfl
theorem C_X8_goes {N : Nat} (hN : NT ≤ N) (a1 : Int32) (a2 : Int32) (σ : Sg) : ∀ r s', J_X8_goes a1 a2 σ = some (r, s') → AMc yX8_goes mX8_goes [.ref 141, .int a1, .int a2] N R0 σ (some (.int r), N, R0, s') := fun r s' e => AMc.of (L := [some (.ref 141), some (.int a1), some (.int a2), none]) (by decide) rfl (fun _ => rfl) (fun _ => Nat.le_of_ble_eq_true rfl) (Nat.le_refl _) (fun K => A_X8_goes K hN a1 a2 σ _ e)
def J_X8_takes (a1 : Int32) (a2 : Int32) (σ : Sg) : Option (Int32 × Sg) :=
  (bd2 (J_X8_looksAt a1 a2 σ) fun r3 s3 => (if 0 ≤ r3 then (bd2 (J_X8_comesTo a1 a2 (1 : Int32) s3) fun r17 s17 => (if 0 ≤ r17 then (some ((s17 141 32), s17)) else (some ((-4 : Int32), s17)))) else (some (r3, s3))))
set_option maxHeartbeats 4000000 in
theorem A_X8_takes (K : KT) {N : Nat} (hN : NT ≤ N) (a1 : Int32) (a2 : Int32) (σ : Sg) : AG K mX8_takes N (fun a : Int32 × Sg => (some (.int a.1), N, R0, a.2)) (J_X8_takes a1 a2 σ) 0 [some (.ref 141), some (.int a1), some (.int a2), none, none] [] σ := by
  unfold J_X8_takes
  refine ag_aload_0 (q := 1) dX8_takes_0 rfl ?_
  refine ag_iload_1 (q := 2) dX8_takes_1 rfl ?_
  refine ag_iload_2 (q := 3) dX8_takes_2 rfl ?_
  refine ag_callV_mI (q := 6) (av := [.int _, .int _]) (rest := []) dX8_takes_3 rfl lk8_237 (C_X8_looksAt hN a1 a2 _) (by decide) (Nat.le_of_ble_eq_true rfl) (Nat.lt_of_lt_of_le (by decide : 141 < NT) hN) (congrArg Prod.fst s_141) (by decide) (fun _ => rfl) (Nat.le_of_ble_eq_true rfl) rfl (fun r3 s3 e3 => ?_)
  refine ag_istore_3 (q := 7) dX8_takes_6 rfl (Nat.le_of_ble_eq_true rfl) rfl ?_
  refine ag_iload_3 (q := 8) dX8_takes_7 rfl ?_
  refine ag_if_ge (tgt := 13) (q := 11) dX8_takes_8 rfl rfl ?_ ?_
  · refine ag_aload_0 (q := 14) dX8_takes_13 rfl ?_
    refine ag_iload_1 (q := 15) dX8_takes_14 rfl ?_
    refine ag_iload_2 (q := 16) dX8_takes_15 rfl ?_
    refine ag_iconst (q := 17) (v := 1) dX8_takes_16 rfl (by decide) ?_
    refine ag_callV_mI (q := 20) (av := [.int _, .int _, .int _]) (rest := []) dX8_takes_17 rfl lk8_208 (C_X8_comesTo hN a1 a2 (1 : Int32) _) (by decide) (Nat.le_of_ble_eq_true rfl) (Nat.lt_of_lt_of_le (by decide : 141 < NT) hN) (congrArg Prod.fst s_141) (by decide) (fun _ => rfl) (Nat.le_of_ble_eq_true rfl) rfl (fun r17 s17 e17 => ?_)
    refine ag_istore_4 (q := 22) dX8_takes_20 rfl (Nat.le_of_ble_eq_true rfl) rfl ?_
    refine ag_iload_4 (q := 24) dX8_takes_22 rfl ?_
    refine ag_if_ge (tgt := 32) (q := 27) dX8_takes_24 rfl rfl ?_ ?_
    · refine ag_aload_0 (q := 33) dX8_takes_32 rfl ?_
      refine ag_getI (q := 36) dX8_takes_33 rfl fl8_198 (Nat.lt_of_lt_of_le (by decide : 141 < NT) hN) (congrArg Prod.fst s_141) rfl ?_
      exact ag_iret dX8_takes_36 rfl rfl
    refine ag_bipush (q := 29) (v := -4) dX8_takes_27 rfl (by decide) ?_
    refine ag_goto (q := 36) dX8_takes_29 rfl ?_
    exact ag_iret dX8_takes_36 rfl rfl
  refine ag_iload_3 (q := 12) dX8_takes_11 rfl ?_
  exact ag_iret dX8_takes_12 rfl rfl
theorem C_X8_takes {N : Nat} (hN : NT ≤ N) (a1 : Int32) (a2 : Int32) (σ : Sg) : ∀ r s', J_X8_takes a1 a2 σ = some (r, s') → AMc yX8_takes mX8_takes [.ref 141, .int a1, .int a2] N R0 σ (some (.int r), N, R0, s') := fun r s' e => AMc.of (L := [some (.ref 141), some (.int a1), some (.int a2), none, none]) (by decide) rfl (fun _ => rfl) (fun _ => Nat.le_of_ble_eq_true rfl) (Nat.le_refl _) (fun K => A_X8_takes K hN a1 a2 σ _ e)
def J_X8_does_b77  (x1 : Int32) (σ : Sg) : Option (Unit × Sg) :=
  (bd2 (J_X8_copies 147 ((54 : Int32) * (σ 141 11)) 146 (0 : Int32) (54 : Int32) σ) fun r95 s95 => (if inb (s95 141 11) 8 = true then (bd2 (J_X8_goesBy x1 (up (up s95 148 (s95 141 11).toNatClampNeg x1) 141 11 (((up s95 148 (s95 141 11).toNatClampNeg x1) 141 11) + (1 : Int32)))) fun r120 s120 => (bd2 (J_X8_copies 146 (0 : Int32) 157 (0 : Int32) (54 : Int32) s120) fun r135 s135 => (some ((), s135)))) else none))
set_option maxHeartbeats 4000000 in
theorem A_X8_does_b77 (K : KT) {N : Nat} (hN : NT ≤ N)  (x1 : Int32) (σ : Sg) : AG K mX8_does N (fun a : Unit × Sg => (none, N, R0, a.2)) (J_X8_does_b77   x1 σ) 77 [some (.ref 141), some (.int x1), none] [] σ := by
  unfold J_X8_does_b77
  refine ag_aload_0 (q := 78) dX8_does_77 rfl ?_
  refine ag_getR (q := 81) dX8_does_78 rfl fl8_25 (Nat.lt_of_lt_of_le (by decide : 141 < NT) hN) (congrArg Prod.fst s_141) rfl r_141_12 ?_
  refine ag_bipush (q := 83) (v := 54) dX8_does_81 rfl (by decide) ?_
  refine ag_aload_0 (q := 84) dX8_does_83 rfl ?_
  refine ag_getI (q := 87) dX8_does_84 rfl fl8_175 (Nat.lt_of_lt_of_le (by decide : 141 < NT) hN) (congrArg Prod.fst s_141) rfl ?_
  refine ag_imul (q := 88) dX8_does_87 rfl ?_
  refine ag_aload_0 (q := 89) dX8_does_88 rfl ?_
  refine ag_getR (q := 92) dX8_does_89 rfl fl8_22 (Nat.lt_of_lt_of_le (by decide : 141 < NT) hN) (congrArg Prod.fst s_141) rfl r_141_10 ?_
  refine ag_iconst (q := 93) (v := 0) dX8_does_92 rfl (by decide) ?_
  refine ag_bipush (q := 95) (v := 54) dX8_does_93 rfl (by decide) ?_
  refine ag_callS_mU (q := 98) (av := [.ref _, .int _, .ref _, .int _, .int _]) (rest := []) dX8_does_95 rfl lk8_162 (C_X8_copies hN 147 (by decide) ((54 : Int32) * (σ 141 11)) 146 (by decide) (0 : Int32) (54 : Int32) _) (by decide) (Nat.le_of_ble_eq_true rfl) (fun _ => rfl) (Nat.le_of_ble_eq_true rfl) rfl (fun r95 s95 e95 => ?_)
  refine ag_aload_0 (q := 99) dX8_does_98 rfl ?_
  refine ag_getR (q := 102) dX8_does_99 rfl fl8_28 (Nat.lt_of_lt_of_le (by decide : 141 < NT) hN) (congrArg Prod.fst s_141) rfl r_141_13 ?_
  refine ag_aload_0 (q := 103) dX8_does_102 rfl ?_
  refine ag_getI (q := 106) dX8_does_103 rfl fl8_175 (Nat.lt_of_lt_of_le (by decide : 141 < NT) hN) (congrArg Prod.fst s_141) rfl ?_
  refine ag_iload_1 (q := 107) dX8_does_106 rfl ?_
  refine ag_iast (q := 108) dX8_does_107 rfl (Nat.lt_of_lt_of_le (by decide : 148 < NT) hN) s_148 ?_
  refine ag_aload_0 (q := 109) dX8_does_108 rfl ?_
  refine ag_dup (q := 110) dX8_does_109 rfl rfl ?_
  refine ag_getI (q := 113) dX8_does_110 rfl fl8_175 (Nat.lt_of_lt_of_le (by decide : 141 < NT) hN) (congrArg Prod.fst s_141) rfl ?_
  refine ag_iconst (q := 114) (v := 1) dX8_does_113 rfl (by decide) ?_
  refine ag_iadd (q := 115) dX8_does_114 rfl ?_
  refine ag_putI (q := 118) dX8_does_115 rfl fl8_175 (Nat.lt_of_lt_of_le (by decide : 141 < NT) hN) (congrArg Prod.fst s_141) rfl ?_
  refine ag_aload_0 (q := 119) dX8_does_118 rfl ?_
  refine ag_iload_1 (q := 120) dX8_does_119 rfl ?_
  refine ag_callV_mU (q := 123) (av := [.int _]) (rest := []) dX8_does_120 rfl lk8_240 (C_X8_goesBy hN x1 _) (by decide) (Nat.le_of_ble_eq_true rfl) (Nat.lt_of_lt_of_le (by decide : 141 < NT) hN) (congrArg Prod.fst s_141) (by decide) (fun _ => rfl) (Nat.le_of_ble_eq_true rfl) rfl (fun r120 s120 e120 => ?_)
  refine ag_aload_0 (q := 124) dX8_does_123 rfl ?_
  refine ag_getR (q := 127) dX8_does_124 rfl fl8_22 (Nat.lt_of_lt_of_le (by decide : 141 < NT) hN) (congrArg Prod.fst s_141) rfl r_141_10 ?_
  refine ag_iconst (q := 128) (v := 0) dX8_does_127 rfl (by decide) ?_
  refine ag_aload_0 (q := 129) dX8_does_128 rfl ?_
  refine ag_getR (q := 132) dX8_does_129 rfl fl8_55 (Nat.lt_of_lt_of_le (by decide : 141 < NT) hN) (congrArg Prod.fst s_141) rfl r_141_31 ?_
  refine ag_iconst (q := 133) (v := 0) dX8_does_132 rfl (by decide) ?_
  refine ag_bipush (q := 135) (v := 54) dX8_does_133 rfl (by decide) ?_
  refine ag_callS_mU (q := 138) (av := [.ref _, .int _, .ref _, .int _, .int _]) (rest := []) dX8_does_135 rfl lk8_162 (C_X8_copies hN 146 (by decide) (0 : Int32) 157 (by decide) (0 : Int32) (54 : Int32) _) (by decide) (Nat.le_of_ble_eq_true rfl) (fun _ => rfl) (Nat.le_of_ble_eq_true rfl) rfl (fun r135 s135 e135 => ?_)
  exact ag_vret dX8_does_138 rfl rfl
def J_X8_does_b41  : Nat → Int32 → Int32 → Sg → Option (Unit × Sg)
  | 0, _, _, _ => none
  | k + 1, x1, x2, σ =>
    (if (7 : Int32) ≤ x2 then (J_X8_does_b77   x1 (up σ 141 11 ((σ 141 11) - (1 : Int32)))) else (if inb (x2 + (1 : Int32)) 8 = true then (if inb x2 8 = true then (J_X8_does_b41   k x1 (x2 + (1)) (up σ 148 x2.toNatClampNeg (σ 148 (x2 + (1 : Int32)).toNatClampNeg))) else none) else none))
set_option maxHeartbeats 4000000 in
theorem A_X8_does_b41 (K : KT) {N : Nat} (hN : NT ≤ N)  : ∀ (k : Nat) (x1 : Int32) (x2 : Int32) (σ : Sg), AG K mX8_does N (fun a : Unit × Sg => (none, N, R0, a.2)) (J_X8_does_b41   k x1 x2 σ) 41 [some (.ref 141), some (.int x1), some (.int x2)] [] σ := by
  intro k
  induction k with
  | zero => intro x1 x2 σ; exact ag_none
  | succ k ih =>
    intro x1 x2 σ
    rw [J_X8_does_b41]
    refine ag_iload_2 (q := 42) dX8_does_41 rfl ?_
    refine ag_bipush (q := 44) (v := 7) dX8_does_42 rfl (by decide) ?_
    refine ag_icmp_ge (tgt := 67) (q := 47) dX8_does_44 rfl rfl ?_ ?_
    · refine ag_aload_0 (q := 68) dX8_does_67 rfl ?_
      refine ag_dup (q := 69) dX8_does_68 rfl rfl ?_
      refine ag_getI (q := 72) dX8_does_69 rfl fl8_175 (Nat.lt_of_lt_of_le (by decide : 141 < NT) hN) (congrArg Prod.fst s_141) rfl ?_
      refine ag_iconst (q := 73) (v := 1) dX8_does_72 rfl (by decide) ?_
      refine ag_isub (q := 74) dX8_does_73 rfl ?_
      refine ag_putI (q := 77) dX8_does_74 rfl fl8_175 (Nat.lt_of_lt_of_le (by decide : 141 < NT) hN) (congrArg Prod.fst s_141) rfl ?_
      refine ag_kill_2 ?_
      exact A_X8_does_b77 K hN   x1 (up σ 141 11 ((σ 141 11) - (1 : Int32)))
    refine ag_aload_0 (q := 48) dX8_does_47 rfl ?_
    refine ag_getR (q := 51) dX8_does_48 rfl fl8_28 (Nat.lt_of_lt_of_le (by decide : 141 < NT) hN) (congrArg Prod.fst s_141) rfl r_141_13 ?_
    refine ag_iload_2 (q := 52) dX8_does_51 rfl ?_
    refine ag_aload_0 (q := 53) dX8_does_52 rfl ?_
    refine ag_getR (q := 56) dX8_does_53 rfl fl8_28 (Nat.lt_of_lt_of_le (by decide : 141 < NT) hN) (congrArg Prod.fst s_141) rfl r_141_13 ?_
    refine ag_iload_2 (q := 57) dX8_does_56 rfl ?_
    refine ag_iconst (q := 58) (v := 1) dX8_does_57 rfl (by decide) ?_
    refine ag_iadd (q := 59) dX8_does_58 rfl ?_
    refine ag_iald (q := 60) dX8_does_59 rfl (Nat.lt_of_lt_of_le (by decide : 148 < NT) hN) s_148 ?_
    refine ag_iast (q := 61) dX8_does_60 rfl (Nat.lt_of_lt_of_le (by decide : 148 < NT) hN) s_148 ?_
    refine ag_iinc_2 (q := 64) (d := (1)) dX8_does_61 rfl (Nat.le_of_ble_eq_true rfl) rfl (by decide) ?_
    refine ag_goto (q := 41) dX8_does_64 rfl ?_
    exact ih x1 (x2 + (1)) (up σ 148 x2.toNatClampNeg (σ 148 (x2 + (1 : Int32)).toNatClampNeg))
def J_X8_does_b11  : Nat → Int32 → Int32 → Sg → Option (Unit × Sg)
  | 0, _, _, _ => none
  | k + 1, x1, x2, σ =>
    (if (378 : Int32) ≤ x2 then (J_X8_does_b41   FU x1 (0 : Int32) σ) else (if inb (x2 + (54 : Int32)) 432 = true then (if inb x2 432 = true then (J_X8_does_b11   k x1 (x2 + (1)) (up σ 147 x2.toNatClampNeg (σ 147 (x2 + (54 : Int32)).toNatClampNeg))) else none) else none))
set_option maxHeartbeats 4000000 in
theorem A_X8_does_b11 (K : KT) {N : Nat} (hN : NT ≤ N)  : ∀ (k : Nat) (x1 : Int32) (x2 : Int32) (σ : Sg), AG K mX8_does N (fun a : Unit × Sg => (none, N, R0, a.2)) (J_X8_does_b11   k x1 x2 σ) 11 [some (.ref 141), some (.int x1), some (.int x2)] [] σ := by
  intro k
  induction k with
  | zero => intro x1 x2 σ; exact ag_none
  | succ k ih =>
    intro x1 x2 σ
    rw [J_X8_does_b11]
    refine ag_iload_2 (q := 12) dX8_does_11 rfl ?_
    refine ag_sipush (q := 15) (v := 378) dX8_does_12 rfl (by decide) ?_
    refine ag_icmp_ge (tgt := 39) (q := 18) dX8_does_15 rfl rfl ?_ ?_
    · refine ag_iconst (q := 40) (v := 0) dX8_does_39 rfl (by decide) ?_
      refine ag_istore_2 (q := 41) dX8_does_40 rfl (Nat.le_of_ble_eq_true rfl) rfl ?_
      exact A_X8_does_b41 K hN   FU x1 (0 : Int32) σ
    refine ag_aload_0 (q := 19) dX8_does_18 rfl ?_
    refine ag_getR (q := 22) dX8_does_19 rfl fl8_25 (Nat.lt_of_lt_of_le (by decide : 141 < NT) hN) (congrArg Prod.fst s_141) rfl r_141_12 ?_
    refine ag_iload_2 (q := 23) dX8_does_22 rfl ?_
    refine ag_aload_0 (q := 24) dX8_does_23 rfl ?_
    refine ag_getR (q := 27) dX8_does_24 rfl fl8_25 (Nat.lt_of_lt_of_le (by decide : 141 < NT) hN) (congrArg Prod.fst s_141) rfl r_141_12 ?_
    refine ag_iload_2 (q := 28) dX8_does_27 rfl ?_
    refine ag_bipush (q := 30) (v := 54) dX8_does_28 rfl (by decide) ?_
    refine ag_iadd (q := 31) dX8_does_30 rfl ?_
    refine ag_iald (q := 32) dX8_does_31 rfl (Nat.lt_of_lt_of_le (by decide : 147 < NT) hN) s_147 ?_
    refine ag_iast (q := 33) dX8_does_32 rfl (Nat.lt_of_lt_of_le (by decide : 147 < NT) hN) s_147 ?_
    refine ag_iinc_2 (q := 36) (d := (1)) dX8_does_33 rfl (Nat.le_of_ble_eq_true rfl) rfl (by decide) ?_
    refine ag_goto (q := 11) dX8_does_36 rfl ?_
    exact ih x1 (x2 + (1)) (up σ 147 x2.toNatClampNeg (σ 147 (x2 + (54 : Int32)).toNatClampNeg))
def J_X8_does (a1 : Int32) (σ : Sg) : Option (Unit × Sg) :=
  (if (σ 141 11) = (8 : Int32) then (J_X8_does_b11   FU a1 (0 : Int32) σ) else (J_X8_does_b77   a1 σ))
set_option maxHeartbeats 4000000 in
theorem A_X8_does (K : KT) {N : Nat} (hN : NT ≤ N) (a1 : Int32) (σ : Sg) : AG K mX8_does N (fun a : Unit × Sg => (none, N, R0, a.2)) (J_X8_does a1 σ) 0 [some (.ref 141), some (.int a1), none] [] σ := by
  unfold J_X8_does
  refine ag_aload_0 (q := 1) dX8_does_0 rfl ?_
  refine ag_getI (q := 4) dX8_does_1 rfl fl8_175 (Nat.lt_of_lt_of_le (by decide : 141 < NT) hN) (congrArg Prod.fst s_141) rfl ?_
  refine ag_bipush (q := 6) (v := 8) dX8_does_4 rfl (by decide) ?_
  refine ag_icmp_ne (tgt := 77) (q := 9) dX8_does_6 rfl rfl ?_ ?_
  · exact A_X8_does_b77 K hN   a1 σ
  refine ag_iconst (q := 10) (v := 0) dX8_does_9 rfl (by decide) ?_
  refine ag_istore_2 (q := 11) dX8_does_10 rfl (Nat.le_of_ble_eq_true rfl) rfl ?_
  exact A_X8_does_b11 K hN   FU a1 (0 : Int32) σ
theorem C_X8_does {N : Nat} (hN : NT ≤ N) (a1 : Int32) (σ : Sg) : ∀ r s', J_X8_does a1 σ = some (r, s') → AMc yX8_does mX8_does [.ref 141, .int a1] N R0 σ (none, N, R0, s') := fun r s' e => AMc.of (L := [some (.ref 141), some (.int a1), none]) (by decide) rfl (fun _ => rfl) (fun _ => Nat.le_of_ble_eq_true rfl) (Nat.le_refl _) (fun K => A_X8_does K hN a1 σ _ e)
def J_X8_drive (a1 : Int32) (a2 : Int32) (σ : Sg) : Option (Int32 × Sg) :=
  (bd1 (J_X8_isBeast a1 σ) fun r2 => (if r2 = 0 then (some ((-1 : Int32), σ)) else (bd1 (J_X8_in a2 (0 : Int32) (3 : Int32) σ) fun r11 => (if r11 = 0 then (some ((-1 : Int32), σ)) else (bd2 (J_X8_asItIs  σ) fun r20 s20 => (bd2 (J_X8_canDrive (((10 : Int32) * a1) + a2) s20) fun r30 s30 => (if r30 = 0 then (some ((-2 : Int32), s30)) else (bd2 (J_X8_comesTo a1 a2 (1 : Int32) s30) fun r43 s43 => (bd2 (J_X8_does (((10 : Int32) * a1) + a2) s43) fun r54 s54 => (some (r43, s54)))))))))))
set_option maxHeartbeats 4000000 in
theorem A_X8_drive (K : KT) {N : Nat} (hN : NT ≤ N) (a1 : Int32) (a2 : Int32) (σ : Sg) : AG K mX8_drive N (fun a : Int32 × Sg => (some (.int a.1), N, R0, a.2)) (J_X8_drive a1 a2 σ) 0 [some (.ref 141), some (.int a1), some (.int a2), none] [] σ := by
  unfold J_X8_drive
  refine ag_aload_0 (q := 1) dX8_drive_0 rfl ?_
  refine ag_iload_1 (q := 2) dX8_drive_1 rfl ?_
  refine ag_callV_pI (q := 5) (av := [.int _]) (rest := []) dX8_drive_2 rfl lk8_231 (C_X8_isBeast hN a1 _) (by decide) (Nat.le_of_ble_eq_true rfl) (Nat.lt_of_lt_of_le (by decide : 141 < NT) hN) (congrArg Prod.fst s_141) (by decide) (fun _ => rfl) (Nat.le_of_ble_eq_true rfl) rfl (fun r2 e2 => ?_)
  refine ag_if_eq (tgt := 17) (q := 8) dX8_drive_5 rfl rfl ?_ ?_
  · refine ag_iconst (q := 18) (v := -1) dX8_drive_17 rfl (by decide) ?_
    exact ag_iret dX8_drive_18 rfl rfl
  refine ag_iload_2 (q := 9) dX8_drive_8 rfl ?_
  refine ag_iconst (q := 10) (v := 0) dX8_drive_9 rfl (by decide) ?_
  refine ag_iconst (q := 11) (v := 3) dX8_drive_10 rfl (by decide) ?_
  refine ag_callS_pI (q := 14) (av := [.int _, .int _, .int _]) (rest := []) dX8_drive_11 rfl lk8_115 (C_X8_in hN a2 (0 : Int32) (3 : Int32) _) (by decide) (Nat.le_of_ble_eq_true rfl) (fun _ => rfl) (Nat.le_of_ble_eq_true rfl) rfl (fun r11 e11 => ?_)
  refine ag_if_ne (tgt := 19) (q := 17) dX8_drive_14 rfl rfl ?_ ?_
  · refine ag_aload_0 (q := 20) dX8_drive_19 rfl ?_
    refine ag_callV_mU (q := 23) (av := []) (rest := []) dX8_drive_20 rfl lk8_228 (C_X8_asItIs hN  _) (by decide) (Nat.le_of_ble_eq_true rfl) (Nat.lt_of_lt_of_le (by decide : 141 < NT) hN) (congrArg Prod.fst s_141) (by decide) (fun _ => rfl) (Nat.le_of_ble_eq_true rfl) rfl (fun r20 s20 e20 => ?_)
    refine ag_aload_0 (q := 24) dX8_drive_23 rfl ?_
    refine ag_bipush (q := 26) (v := 10) dX8_drive_24 rfl (by decide) ?_
    refine ag_iload_1 (q := 27) dX8_drive_26 rfl ?_
    refine ag_imul (q := 28) dX8_drive_27 rfl ?_
    refine ag_iload_2 (q := 29) dX8_drive_28 rfl ?_
    refine ag_iadd (q := 30) dX8_drive_29 rfl ?_
    refine ag_callV_mI (q := 33) (av := [.int _]) (rest := []) dX8_drive_30 rfl lk8_243 (C_X8_canDrive hN (((10 : Int32) * a1) + a2) _) (by decide) (Nat.le_of_ble_eq_true rfl) (Nat.lt_of_lt_of_le (by decide : 141 < NT) hN) (congrArg Prod.fst s_141) (by decide) (fun _ => rfl) (Nat.le_of_ble_eq_true rfl) rfl (fun r30 s30 e30 => ?_)
    refine ag_if_ne (tgt := 39) (q := 36) dX8_drive_33 rfl rfl ?_ ?_
    · refine ag_aload_0 (q := 40) dX8_drive_39 rfl ?_
      refine ag_iload_1 (q := 41) dX8_drive_40 rfl ?_
      refine ag_iload_2 (q := 42) dX8_drive_41 rfl ?_
      refine ag_iconst (q := 43) (v := 1) dX8_drive_42 rfl (by decide) ?_
      refine ag_callV_mI (q := 46) (av := [.int _, .int _, .int _]) (rest := []) dX8_drive_43 rfl lk8_208 (C_X8_comesTo hN a1 a2 (1 : Int32) _) (by decide) (Nat.le_of_ble_eq_true rfl) (Nat.lt_of_lt_of_le (by decide : 141 < NT) hN) (congrArg Prod.fst s_141) (by decide) (fun _ => rfl) (Nat.le_of_ble_eq_true rfl) rfl (fun r43 s43 e43 => ?_)
      refine ag_istore_3 (q := 47) dX8_drive_46 rfl (Nat.le_of_ble_eq_true rfl) rfl ?_
      refine ag_aload_0 (q := 48) dX8_drive_47 rfl ?_
      refine ag_bipush (q := 50) (v := 10) dX8_drive_48 rfl (by decide) ?_
      refine ag_iload_1 (q := 51) dX8_drive_50 rfl ?_
      refine ag_imul (q := 52) dX8_drive_51 rfl ?_
      refine ag_iload_2 (q := 53) dX8_drive_52 rfl ?_
      refine ag_iadd (q := 54) dX8_drive_53 rfl ?_
      refine ag_callV_mU (q := 57) (av := [.int _]) (rest := []) dX8_drive_54 rfl lk8_246 (C_X8_does hN (((10 : Int32) * a1) + a2) _) (by decide) (Nat.le_of_ble_eq_true rfl) (Nat.lt_of_lt_of_le (by decide : 141 < NT) hN) (congrArg Prod.fst s_141) (by decide) (fun _ => rfl) (Nat.le_of_ble_eq_true rfl) rfl (fun r54 s54 e54 => ?_)
      refine ag_iload_3 (q := 58) dX8_drive_57 rfl ?_
      exact ag_iret dX8_drive_58 rfl rfl
    refine ag_bipush (q := 38) (v := -2) dX8_drive_36 rfl (by decide) ?_
    exact ag_iret dX8_drive_38 rfl rfl
  refine ag_iconst (q := 18) (v := -1) dX8_drive_17 rfl (by decide) ?_
  exact ag_iret dX8_drive_18 rfl rfl
theorem C_X8_drive {N : Nat} (hN : NT ≤ N) (a1 : Int32) (a2 : Int32) (σ : Sg) : ∀ r s', J_X8_drive a1 a2 σ = some (r, s') → AMc yX8_drive mX8_drive [.ref 141, .int a1, .int a2] N R0 σ (some (.int r), N, R0, s') := fun r s' e => AMc.of (L := [some (.ref 141), some (.int a1), some (.int a2), none]) (by decide) rfl (fun _ => rfl) (fun _ => Nat.le_of_ble_eq_true rfl) (Nat.le_refl _) (fun K => A_X8_drive K hN a1 a2 σ _ e)
def J_X8_rest  (σ : Sg) : Option (Int32 × Sg) :=
  (bd2 (J_X8_asItIs  σ) fun r1 s1 => (bd1 (J_X8_lost  s1) fun r5 => (if r5 = 0 then (bd2 (J_X8_does (99 : Int32) s1) fun r17 s17 => (some ((s17 146 0), s17))) else (some ((-2 : Int32), s1)))))
set_option maxHeartbeats 4000000 in
theorem A_X8_rest (K : KT) {N : Nat} (hN : NT ≤ N)  (σ : Sg) : AG K mX8_rest N (fun a : Int32 × Sg => (some (.int a.1), N, R0, a.2)) (J_X8_rest  σ) 0 [some (.ref 141)] [] σ := by
  unfold J_X8_rest
  refine ag_aload_0 (q := 1) dX8_rest_0 rfl ?_
  refine ag_callV_mU (q := 4) (av := []) (rest := []) dX8_rest_1 rfl lk8_228 (C_X8_asItIs hN  _) (by decide) (Nat.le_of_ble_eq_true rfl) (Nat.lt_of_lt_of_le (by decide : 141 < NT) hN) (congrArg Prod.fst s_141) (by decide) (fun _ => rfl) (Nat.le_of_ble_eq_true rfl) rfl (fun r1 s1 e1 => ?_)
  refine ag_aload_0 (q := 5) dX8_rest_4 rfl ?_
  refine ag_callV_pI (q := 8) (av := []) (rest := []) dX8_rest_5 rfl lk8_222 (C_X8_lost hN  _) (by decide) (Nat.le_of_ble_eq_true rfl) (Nat.lt_of_lt_of_le (by decide : 141 < NT) hN) (congrArg Prod.fst s_141) (by decide) (fun _ => rfl) (Nat.le_of_ble_eq_true rfl) rfl (fun r5 e5 => ?_)
  refine ag_if_eq (tgt := 14) (q := 11) dX8_rest_8 rfl rfl ?_ ?_
  · refine ag_aload_0 (q := 15) dX8_rest_14 rfl ?_
    refine ag_bipush (q := 17) (v := 99) dX8_rest_15 rfl (by decide) ?_
    refine ag_callV_mU (q := 20) (av := [.int _]) (rest := []) dX8_rest_17 rfl lk8_246 (C_X8_does hN (99 : Int32) _) (by decide) (Nat.le_of_ble_eq_true rfl) (Nat.lt_of_lt_of_le (by decide : 141 < NT) hN) (congrArg Prod.fst s_141) (by decide) (fun _ => rfl) (Nat.le_of_ble_eq_true rfl) rfl (fun r17 s17 e17 => ?_)
    refine ag_aload_0 (q := 21) dX8_rest_20 rfl ?_
    refine ag_getR (q := 24) dX8_rest_21 rfl fl8_22 (Nat.lt_of_lt_of_le (by decide : 141 < NT) hN) (congrArg Prod.fst s_141) rfl r_141_10 ?_
    refine ag_iconst (q := 25) (v := 0) dX8_rest_24 rfl (by decide) ?_
    refine ag_ialdK (q := 26) (k := 0) dX8_rest_25 rfl (Nat.lt_of_lt_of_le (by decide : 146 < NT) hN) s_146 (by decide) (by decide) ?_
    exact ag_iret dX8_rest_26 rfl rfl
  refine ag_bipush (q := 13) (v := -2) dX8_rest_11 rfl (by decide) ?_
  exact ag_iret dX8_rest_13 rfl rfl
theorem C_X8_rest {N : Nat} (hN : NT ≤ N)  (σ : Sg) : ∀ r s', J_X8_rest  σ = some (r, s') → AMc yX8_rest mX8_rest [.ref 141] N R0 σ (some (.int r), N, R0, s') := fun r s' e => AMc.of (L := [some (.ref 141)]) (by decide) rfl (fun _ => rfl) (fun _ => Nat.le_of_ble_eq_true rfl) (Nat.le_refl _) (fun K => A_X8_rest K hN  σ _ e)
def J_X8_undo  (σ : Sg) : Option (Int32 × Sg) :=
  (if (σ 141 11) = 0 then (some ((-2 : Int32), σ)) else (bd2 (J_X8_copies 146 (0 : Int32) 147 ((54 : Int32) * ((up σ 141 11 ((σ 141 11) - (1 : Int32))) 141 11)) (54 : Int32) (up σ 141 11 ((σ 141 11) - (1 : Int32)))) fun r38 s38 => (some ((s38 141 11), s38))))
set_option maxHeartbeats 4000000 in
theorem A_X8_undo (K : KT) {N : Nat} (hN : NT ≤ N)  (σ : Sg) : AG K mX8_undo N (fun a : Int32 × Sg => (some (.int a.1), N, R0, a.2)) (J_X8_undo  σ) 0 [some (.ref 141)] [] σ := by
  unfold J_X8_undo
  refine ag_aload_0 (q := 1) dX8_undo_0 rfl ?_
  refine ag_getI (q := 4) dX8_undo_1 rfl fl8_175 (Nat.lt_of_lt_of_le (by decide : 141 < NT) hN) (congrArg Prod.fst s_141) rfl ?_
  refine ag_if_ne (tgt := 10) (q := 7) dX8_undo_4 rfl rfl ?_ ?_
  · refine ag_aload_0 (q := 11) dX8_undo_10 rfl ?_
    refine ag_dup (q := 12) dX8_undo_11 rfl rfl ?_
    refine ag_getI (q := 15) dX8_undo_12 rfl fl8_175 (Nat.lt_of_lt_of_le (by decide : 141 < NT) hN) (congrArg Prod.fst s_141) rfl ?_
    refine ag_iconst (q := 16) (v := 1) dX8_undo_15 rfl (by decide) ?_
    refine ag_isub (q := 17) dX8_undo_16 rfl ?_
    refine ag_putI (q := 20) dX8_undo_17 rfl fl8_175 (Nat.lt_of_lt_of_le (by decide : 141 < NT) hN) (congrArg Prod.fst s_141) rfl ?_
    refine ag_aload_0 (q := 21) dX8_undo_20 rfl ?_
    refine ag_getR (q := 24) dX8_undo_21 rfl fl8_22 (Nat.lt_of_lt_of_le (by decide : 141 < NT) hN) (congrArg Prod.fst s_141) rfl r_141_10 ?_
    refine ag_iconst (q := 25) (v := 0) dX8_undo_24 rfl (by decide) ?_
    refine ag_aload_0 (q := 26) dX8_undo_25 rfl ?_
    refine ag_getR (q := 29) dX8_undo_26 rfl fl8_25 (Nat.lt_of_lt_of_le (by decide : 141 < NT) hN) (congrArg Prod.fst s_141) rfl r_141_12 ?_
    refine ag_bipush (q := 31) (v := 54) dX8_undo_29 rfl (by decide) ?_
    refine ag_aload_0 (q := 32) dX8_undo_31 rfl ?_
    refine ag_getI (q := 35) dX8_undo_32 rfl fl8_175 (Nat.lt_of_lt_of_le (by decide : 141 < NT) hN) (congrArg Prod.fst s_141) rfl ?_
    refine ag_imul (q := 36) dX8_undo_35 rfl ?_
    refine ag_bipush (q := 38) (v := 54) dX8_undo_36 rfl (by decide) ?_
    refine ag_callS_mU (q := 41) (av := [.ref _, .int _, .ref _, .int _, .int _]) (rest := []) dX8_undo_38 rfl lk8_162 (C_X8_copies hN 146 (by decide) (0 : Int32) 147 (by decide) ((54 : Int32) * ((up σ 141 11 ((σ 141 11) - (1 : Int32))) 141 11)) (54 : Int32) _) (by decide) (Nat.le_of_ble_eq_true rfl) (fun _ => rfl) (Nat.le_of_ble_eq_true rfl) rfl (fun r38 s38 e38 => ?_)
    refine ag_aload_0 (q := 42) dX8_undo_41 rfl ?_
    refine ag_getI (q := 45) dX8_undo_42 rfl fl8_175 (Nat.lt_of_lt_of_le (by decide : 141 < NT) hN) (congrArg Prod.fst s_141) rfl ?_
    exact ag_iret dX8_undo_45 rfl rfl
  refine ag_bipush (q := 9) (v := -2) dX8_undo_7 rfl (by decide) ?_
  exact ag_iret dX8_undo_9 rfl rfl
theorem C_X8_undo {N : Nat} (hN : NT ≤ N)  (σ : Sg) : ∀ r s', J_X8_undo  σ = some (r, s') → AMc yX8_undo mX8_undo [.ref 141] N R0 σ (some (.int r), N, R0, s') := fun r s' e => AMc.of (L := [some (.ref 141)]) (by decide) rfl (fun _ => rfl) (fun _ => Nat.le_of_ble_eq_true rfl) (Nat.le_refl _) (fun K => A_X8_undo K hN  σ _ e)
def J_X8_reaches_b30  (x1 : Int32) (x2 : Int32) (x3 : Int32) (w0 : Int32) (w1 : Int32) (σ : Sg) : Option (Unit × Sg) :=
  (if inb w1 72 = true then (if inb x1 72 = true then (if inb x1 72 = true then (if inb ((up (up (up σ 159 w1.toNatClampNeg w0) 160 x1.toNatClampNeg x2) 161 x1.toNatClampNeg x3) 141 37) 72 = true then (some ((), (up (up (up (up (up σ 159 w1.toNatClampNeg w0) 160 x1.toNatClampNeg x2) 161 x1.toNatClampNeg x3) 158 ((up (up (up σ 159 w1.toNatClampNeg w0) 160 x1.toNatClampNeg x2) 161 x1.toNatClampNeg x3) 141 37).toNatClampNeg x1) 141 37 (((up (up (up (up σ 159 w1.toNatClampNeg w0) 160 x1.toNatClampNeg x2) 161 x1.toNatClampNeg x3) 158 ((up (up (up σ 159 w1.toNatClampNeg w0) 160 x1.toNatClampNeg x2) 161 x1.toNatClampNeg x3) 141 37).toNatClampNeg x1) 141 37) + (1 : Int32))))) else none) else none) else none) else none)
set_option maxHeartbeats 4000000 in
theorem A_X8_reaches_b30 (K : KT) {N : Nat} (hN : NT ≤ N)  (x1 : Int32) (x2 : Int32) (x3 : Int32) (w0 : Int32) (w1 : Int32) (σ : Sg) : AG K mX8_reaches N (fun a : Unit × Sg => (none, N, R0, a.2)) (J_X8_reaches_b30   x1 x2 x3 w0 w1 σ) 30 [some (.ref 141), some (.int x1), some (.int x2), some (.int x3)] [.int w0, .int w1, .ref 159] σ := by
  unfold J_X8_reaches_b30
  refine ag_iast (q := 31) dX8_reaches_30 rfl (Nat.lt_of_lt_of_le (by decide : 159 < NT) hN) s_159 ?_
  refine ag_aload_0 (q := 32) dX8_reaches_31 rfl ?_
  refine ag_getR (q := 35) dX8_reaches_32 rfl fl8_64 (Nat.lt_of_lt_of_le (by decide : 141 < NT) hN) (congrArg Prod.fst s_141) rfl r_141_35 ?_
  refine ag_iload_1 (q := 36) dX8_reaches_35 rfl ?_
  refine ag_iload_2 (q := 37) dX8_reaches_36 rfl ?_
  refine ag_iast (q := 38) dX8_reaches_37 rfl (Nat.lt_of_lt_of_le (by decide : 160 < NT) hN) s_160 ?_
  refine ag_aload_0 (q := 39) dX8_reaches_38 rfl ?_
  refine ag_getR (q := 42) dX8_reaches_39 rfl fl8_67 (Nat.lt_of_lt_of_le (by decide : 141 < NT) hN) (congrArg Prod.fst s_141) rfl r_141_36 ?_
  refine ag_iload_1 (q := 43) dX8_reaches_42 rfl ?_
  refine ag_iload_3 (q := 44) dX8_reaches_43 rfl ?_
  refine ag_iast (q := 45) dX8_reaches_44 rfl (Nat.lt_of_lt_of_le (by decide : 161 < NT) hN) s_161 ?_
  refine ag_aload_0 (q := 46) dX8_reaches_45 rfl ?_
  refine ag_getR (q := 49) dX8_reaches_46 rfl fl8_58 (Nat.lt_of_lt_of_le (by decide : 141 < NT) hN) (congrArg Prod.fst s_141) rfl r_141_33 ?_
  refine ag_aload_0 (q := 50) dX8_reaches_49 rfl ?_
  refine ag_getI (q := 53) dX8_reaches_50 rfl fl8_249 (Nat.lt_of_lt_of_le (by decide : 141 < NT) hN) (congrArg Prod.fst s_141) rfl ?_
  refine ag_iload_1 (q := 54) dX8_reaches_53 rfl ?_
  refine ag_iast (q := 55) dX8_reaches_54 rfl (Nat.lt_of_lt_of_le (by decide : 158 < NT) hN) s_158 ?_
  refine ag_aload_0 (q := 56) dX8_reaches_55 rfl ?_
  refine ag_dup (q := 57) dX8_reaches_56 rfl rfl ?_
  refine ag_getI (q := 60) dX8_reaches_57 rfl fl8_249 (Nat.lt_of_lt_of_le (by decide : 141 < NT) hN) (congrArg Prod.fst s_141) rfl ?_
  refine ag_iconst (q := 61) (v := 1) dX8_reaches_60 rfl (by decide) ?_
  refine ag_iadd (q := 62) dX8_reaches_61 rfl ?_
  refine ag_putI (q := 65) dX8_reaches_62 rfl fl8_249 (Nat.lt_of_lt_of_le (by decide : 141 < NT) hN) (congrArg Prod.fst s_141) rfl ?_
  exact ag_vret dX8_reaches_65 rfl rfl
def J_X8_reaches (a1 : Int32) (a2 : Int32) (a3 : Int32) (σ : Sg) : Option (Unit × Sg) :=
  (if inb a1 72 = true then (if 0 ≤ (σ 159 a1.toNatClampNeg) then (some ((), σ)) else (if 0 ≤ a2 then (if inb a2 72 = true then (J_X8_reaches_b30   a1 a2 a3 ((σ 159 a2.toNatClampNeg) + (1 : Int32)) a1 σ) else none) else (J_X8_reaches_b30   a1 a2 a3 (0 : Int32) a1 σ))) else none)
set_option maxHeartbeats 4000000 in
theorem A_X8_reaches (K : KT) {N : Nat} (hN : NT ≤ N) (a1 : Int32) (a2 : Int32) (a3 : Int32) (σ : Sg) : AG K mX8_reaches N (fun a : Unit × Sg => (none, N, R0, a.2)) (J_X8_reaches a1 a2 a3 σ) 0 [some (.ref 141), some (.int a1), some (.int a2), some (.int a3)] [] σ := by
  unfold J_X8_reaches
  refine ag_aload_0 (q := 1) dX8_reaches_0 rfl ?_
  refine ag_getR (q := 4) dX8_reaches_1 rfl fl8_61 (Nat.lt_of_lt_of_le (by decide : 141 < NT) hN) (congrArg Prod.fst s_141) rfl r_141_34 ?_
  refine ag_iload_1 (q := 5) dX8_reaches_4 rfl ?_
  refine ag_iald (q := 6) dX8_reaches_5 rfl (Nat.lt_of_lt_of_le (by decide : 159 < NT) hN) s_159 ?_
  refine ag_if_ge (tgt := 65) (q := 9) dX8_reaches_6 rfl rfl ?_ ?_
  · exact ag_vret dX8_reaches_65 rfl rfl
  refine ag_aload_0 (q := 10) dX8_reaches_9 rfl ?_
  refine ag_getR (q := 13) dX8_reaches_10 rfl fl8_61 (Nat.lt_of_lt_of_le (by decide : 141 < NT) hN) (congrArg Prod.fst s_141) rfl r_141_34 ?_
  refine ag_iload_1 (q := 14) dX8_reaches_13 rfl ?_
  refine ag_iload_2 (q := 15) dX8_reaches_14 rfl ?_
  refine ag_if_ge (tgt := 22) (q := 18) dX8_reaches_15 rfl rfl ?_ ?_
  · refine ag_aload_0 (q := 23) dX8_reaches_22 rfl ?_
    refine ag_getR (q := 26) dX8_reaches_23 rfl fl8_61 (Nat.lt_of_lt_of_le (by decide : 141 < NT) hN) (congrArg Prod.fst s_141) rfl r_141_34 ?_
    refine ag_iload_2 (q := 27) dX8_reaches_26 rfl ?_
    refine ag_iald (q := 28) dX8_reaches_27 rfl (Nat.lt_of_lt_of_le (by decide : 159 < NT) hN) s_159 ?_
    refine ag_iconst (q := 29) (v := 1) dX8_reaches_28 rfl (by decide) ?_
    refine ag_iadd (q := 30) dX8_reaches_29 rfl ?_
    exact A_X8_reaches_b30 K hN   a1 a2 a3 ((σ 159 a2.toNatClampNeg) + (1 : Int32)) a1 σ
  refine ag_iconst (q := 19) (v := 0) dX8_reaches_18 rfl (by decide) ?_
  refine ag_goto (q := 30) dX8_reaches_19 rfl ?_
  exact A_X8_reaches_b30 K hN   a1 a2 a3 (0 : Int32) a1 σ
theorem C_X8_reaches {N : Nat} (hN : NT ≤ N) (a1 : Int32) (a2 : Int32) (a3 : Int32) (σ : Sg) : ∀ r s', J_X8_reaches a1 a2 a3 σ = some (r, s') → AMc yX8_reaches mX8_reaches [.ref 141, .int a1, .int a2, .int a3] N R0 σ (none, N, R0, s') := fun r s' e => AMc.of (L := [some (.ref 141), some (.int a1), some (.int a2), some (.int a3)]) (by decide) rfl (fun _ => rfl) (fun _ => Nat.le_of_ble_eq_true rfl) (Nat.le_refl _) (fun K => A_X8_reaches K hN a1 a2 a3 σ _ e)
def J_X8_nowOne (a1 : Int32) (σ : Sg) : Option Int32 :=
  (if inb ((37 : Int32) + a1) 54 = true then (bd1 (J_X8_has (σ 157 53) a1 σ) fun r17 => (if r17 = 0 then (some ((σ 157 ((37 : Int32) + a1).toNatClampNeg) + (0 : Int32))) else (some ((σ 157 ((37 : Int32) + a1).toNatClampNeg) + (36 : Int32))))) else none)
set_option maxHeartbeats 4000000 in
theorem A_X8_nowOne (K : KT) {N : Nat} (hN : NT ≤ N) (a1 : Int32) (σ : Sg) : AG K mX8_nowOne N (fun a : Int32 => (some (.int a), N, R0, σ)) (J_X8_nowOne a1 σ) 0 [some (.ref 141), some (.int a1)] [] σ := by
  unfold J_X8_nowOne
  refine ag_aload_0 (q := 1) dX8_nowOne_0 rfl ?_
  refine ag_getR (q := 4) dX8_nowOne_1 rfl fl8_55 (Nat.lt_of_lt_of_le (by decide : 141 < NT) hN) (congrArg Prod.fst s_141) rfl r_141_31 ?_
  refine ag_bipush (q := 6) (v := 37) dX8_nowOne_4 rfl (by decide) ?_
  refine ag_iload_1 (q := 7) dX8_nowOne_6 rfl ?_
  refine ag_iadd (q := 8) dX8_nowOne_7 rfl ?_
  refine ag_iald (q := 9) dX8_nowOne_8 rfl (Nat.lt_of_lt_of_le (by decide : 157 < NT) hN) s_157 ?_
  refine ag_aload_0 (q := 10) dX8_nowOne_9 rfl ?_
  refine ag_getR (q := 13) dX8_nowOne_10 rfl fl8_55 (Nat.lt_of_lt_of_le (by decide : 141 < NT) hN) (congrArg Prod.fst s_141) rfl r_141_31 ?_
  refine ag_bipush (q := 15) (v := 53) dX8_nowOne_13 rfl (by decide) ?_
  refine ag_ialdK (q := 16) (k := 53) dX8_nowOne_15 rfl (Nat.lt_of_lt_of_le (by decide : 157 < NT) hN) s_157 (by decide) (by decide) ?_
  refine ag_iload_1 (q := 17) dX8_nowOne_16 rfl ?_
  refine ag_callS_pI (q := 20) (av := [.int _, .int _]) (rest := [.int _]) dX8_nowOne_17 rfl lk8_181 (C_X8_has hN (σ 157 53) a1 _) (by decide) (Nat.le_of_ble_eq_true rfl) (fun _ => rfl) (Nat.le_of_ble_eq_true rfl) rfl (fun r17 e17 => ?_)
  refine ag_if_eq (tgt := 28) (q := 23) dX8_nowOne_20 rfl rfl ?_ ?_
  · refine ag_iconst (q := 29) (v := 0) dX8_nowOne_28 rfl (by decide) ?_
    refine ag_iadd (q := 30) dX8_nowOne_29 rfl ?_
    exact ag_iret dX8_nowOne_30 rfl rfl
  refine ag_bipush (q := 25) (v := 36) dX8_nowOne_23 rfl (by decide) ?_
  refine ag_goto (q := 29) dX8_nowOne_25 rfl ?_
  refine ag_iadd (q := 30) dX8_nowOne_29 rfl ?_
  exact ag_iret dX8_nowOne_30 rfl rfl
theorem C_X8_nowOne {N : Nat} (hN : NT ≤ N) (a1 : Int32) (σ : Sg) : ∀ r, J_X8_nowOne a1 σ = some r → AMc yX8_nowOne mX8_nowOne [.ref 141, .int a1] N R0 σ (some (.int r), N, R0, σ) := fun r e => AMc.of (L := [some (.ref 141), some (.int a1)]) (by decide) rfl (fun _ => rfl) (fun _ => Nat.le_of_ble_eq_true rfl) (Nat.le_refl _) (fun K => A_X8_nowOne K hN a1 σ _ e)
def J_X8_strays_b131  (y58 : Int32 → Int32 → Int32 → Int32 → Sg → Option (Unit × Sg)) (y79 : Int32 → Int32 → Int32 → Int32 → Int32 → Int32 → Sg → Option (Unit × Sg)) (x1 : Int32) (x2 : Int32) (x3 : Int32) (x4 : Int32) (x5 : Int32) (x6 : Int32) (w0 : Int32) (w1 : Int32) (w2 : Int32) (σ : Sg) : Option (Unit × Sg) :=
  (if inb w2 54 = true then (bd2 (J_X8_comesTo x1 x6 (0 : Int32) (up σ 157 w2.toNatClampNeg (w1 ||| w0))) fun r138 s138 => (if r138 < 0 then (y79 x1 x2 x3 x4 x5 (x6 + (1)) s138) else (bd2 (J_X8_stands x1 r138 s138) fun r152 s152 => (bd1 (J_X8_nowOne x1 s152) fun r158 => (bd2 (J_X8_reaches r158 x5 x6 s152) fun r165 s165 => (y79 x1 x2 x3 x4 x5 (x6 + (1)) s165)))))) else none)
set_option maxHeartbeats 4000000 in
theorem A_X8_strays_b131 (K : KT) {N : Nat} (hN : NT ≤ N)  (y58 : Int32 → Int32 → Int32 → Int32 → Sg → Option (Unit × Sg)) (hy58 : ∀ (x1 : Int32) (x2 : Int32) (x3 : Int32) (x4 : Int32) (σ : Sg), AG K mX8_strays N (fun a : Unit × Sg => (none, N, R0, a.2)) (y58 x1 x2 x3 x4 σ) 58 [some (.ref 141), some (.int x1), some (.int x2), some (.int x3), some (.int x4), none, none, none] [] σ) (y79 : Int32 → Int32 → Int32 → Int32 → Int32 → Int32 → Sg → Option (Unit × Sg)) (hy79 : ∀ (x1 : Int32) (x2 : Int32) (x3 : Int32) (x4 : Int32) (x5 : Int32) (x6 : Int32) (σ : Sg), AG K mX8_strays N (fun a : Unit × Sg => (none, N, R0, a.2)) (y79 x1 x2 x3 x4 x5 x6 σ) 79 [some (.ref 141), some (.int x1), some (.int x2), some (.int x3), some (.int x4), some (.int x5), some (.int x6), none] [] σ) (x1 : Int32) (x2 : Int32) (x3 : Int32) (x4 : Int32) (x5 : Int32) (x6 : Int32) (w0 : Int32) (w1 : Int32) (w2 : Int32) (σ : Sg) : AG K mX8_strays N (fun a : Unit × Sg => (none, N, R0, a.2)) (J_X8_strays_b131  y58 y79 x1 x2 x3 x4 x5 x6 w0 w1 w2 σ) 131 [some (.ref 141), some (.int x1), some (.int x2), some (.int x3), some (.int x4), some (.int x5), some (.int x6), none] [.int w0, .int w1, .int w2, .ref 157] σ := by
  unfold J_X8_strays_b131
  refine ag_ior (q := 132) dX8_strays_131 rfl ?_
  refine ag_iast (q := 133) dX8_strays_132 rfl (Nat.lt_of_lt_of_le (by decide : 157 < NT) hN) s_157 ?_
  refine ag_aload_0 (q := 134) dX8_strays_133 rfl ?_
  refine ag_iload_1 (q := 135) dX8_strays_134 rfl ?_
  refine ag_iload_6 (q := 137) dX8_strays_135 rfl ?_
  refine ag_iconst (q := 138) (v := 0) dX8_strays_137 rfl (by decide) ?_
  refine ag_callV_mI (q := 141) (av := [.int _, .int _, .int _]) (rest := []) dX8_strays_138 rfl lk8_208 (C_X8_comesTo hN x1 x6 (0 : Int32) _) (by decide) (Nat.le_of_ble_eq_true rfl) (Nat.lt_of_lt_of_le (by decide : 141 < NT) hN) (congrArg Prod.fst s_141) (by decide) (fun _ => rfl) (Nat.le_of_ble_eq_true rfl) rfl (fun r138 s138 e138 => ?_)
  refine ag_istore_7 (q := 143) dX8_strays_141 rfl (Nat.le_of_ble_eq_true rfl) rfl ?_
  refine ag_iload_7 (q := 145) dX8_strays_143 rfl ?_
  refine ag_if_lt (tgt := 168) (q := 148) dX8_strays_145 rfl rfl ?_ ?_
  · refine ag_iinc_6 (q := 171) (d := (1)) dX8_strays_168 rfl (Nat.le_of_ble_eq_true rfl) rfl (by decide) ?_
    refine ag_goto (q := 79) dX8_strays_171 rfl ?_
    refine ag_kill_7 ?_
    exact hy79 x1 x2 x3 x4 x5 (x6 + (1)) s138
  refine ag_aload_0 (q := 149) dX8_strays_148 rfl ?_
  refine ag_iload_1 (q := 150) dX8_strays_149 rfl ?_
  refine ag_iload_7 (q := 152) dX8_strays_150 rfl ?_
  refine ag_callV_mU (q := 155) (av := [.int _, .int _]) (rest := []) dX8_strays_152 rfl lk8_212 (C_X8_stands hN x1 r138 _) (by decide) (Nat.le_of_ble_eq_true rfl) (Nat.lt_of_lt_of_le (by decide : 141 < NT) hN) (congrArg Prod.fst s_141) (by decide) (fun _ => rfl) (Nat.le_of_ble_eq_true rfl) rfl (fun r152 s152 e152 => ?_)
  refine ag_aload_0 (q := 156) dX8_strays_155 rfl ?_
  refine ag_aload_0 (q := 157) dX8_strays_156 rfl ?_
  refine ag_iload_1 (q := 158) dX8_strays_157 rfl ?_
  refine ag_callV_pI (q := 161) (av := [.int _]) (rest := [.ref _]) dX8_strays_158 rfl lk8_252 (C_X8_nowOne hN x1 _) (by decide) (Nat.le_of_ble_eq_true rfl) (Nat.lt_of_lt_of_le (by decide : 141 < NT) hN) (congrArg Prod.fst s_141) (by decide) (fun _ => rfl) (Nat.le_of_ble_eq_true rfl) rfl (fun r158 e158 => ?_)
  refine ag_iload_5 (q := 163) dX8_strays_161 rfl ?_
  refine ag_iload_6 (q := 165) dX8_strays_163 rfl ?_
  refine ag_callV_mU (q := 168) (av := [.int _, .int _, .int _]) (rest := []) dX8_strays_165 rfl lk8_255 (C_X8_reaches hN r158 x5 x6 _) (by decide) (Nat.le_of_ble_eq_true rfl) (Nat.lt_of_lt_of_le (by decide : 141 < NT) hN) (congrArg Prod.fst s_141) (by decide) (fun _ => rfl) (Nat.le_of_ble_eq_true rfl) rfl (fun r165 s165 e165 => ?_)
  refine ag_iinc_6 (q := 171) (d := (1)) dX8_strays_168 rfl (Nat.le_of_ble_eq_true rfl) rfl (by decide) ?_
  refine ag_goto (q := 79) dX8_strays_171 rfl ?_
  refine ag_kill_7 ?_
  exact hy79 x1 x2 x3 x4 x5 (x6 + (1)) s165
def J_X8_strays_b79  (y58 : Int32 → Int32 → Int32 → Int32 → Sg → Option (Unit × Sg)) : Nat → Int32 → Int32 → Int32 → Int32 → Int32 → Int32 → Sg → Option (Unit × Sg)
  | 0, _, _, _, _, _, _, _ => none
  | k + 1, x1, x2, x3, x4, x5, x6, σ =>
    (if (4 : Int32) ≤ x6 then (y58 x1 x2 x3 (x4 + (1)) σ) else (if inb x5 72 = true then (if x2 ≤ (σ 159 x5.toNatClampNeg) then (y58 x1 x2 x3 (x4 + (1)) σ) else (if inb ((37 : Int32) + x1) 54 = true then (if x5 < (36 : Int32) then (J_X8_strays_b131  y58 (fun x1 x2 x3 x4 x5 x6 σ => J_X8_strays_b79  y58 k x1 x2 x3 x4 x5 x6 σ) x1 x2 x3 x4 x5 x6 (0 : Int32) x3 (53 : Int32) (up σ 157 ((37 : Int32) + x1).toNatClampNeg (rmI x5 (36 : Int32)))) else (J_X8_strays_b131  y58 (fun x1 x2 x3 x4 x5 x6 σ => J_X8_strays_b79  y58 k x1 x2 x3 x4 x5 x6 σ) x1 x2 x3 x4 x5 x6 ((1 : Int32) <<< (x1 &&& 31)) x3 (53 : Int32) (up σ 157 ((37 : Int32) + x1).toNatClampNeg (rmI x5 (36 : Int32))))) else none)) else none))
set_option maxHeartbeats 4000000 in
theorem A_X8_strays_b79 (K : KT) {N : Nat} (hN : NT ≤ N)  (y58 : Int32 → Int32 → Int32 → Int32 → Sg → Option (Unit × Sg)) (hy58 : ∀ (x1 : Int32) (x2 : Int32) (x3 : Int32) (x4 : Int32) (σ : Sg), AG K mX8_strays N (fun a : Unit × Sg => (none, N, R0, a.2)) (y58 x1 x2 x3 x4 σ) 58 [some (.ref 141), some (.int x1), some (.int x2), some (.int x3), some (.int x4), none, none, none] [] σ) : ∀ (k : Nat) (x1 : Int32) (x2 : Int32) (x3 : Int32) (x4 : Int32) (x5 : Int32) (x6 : Int32) (σ : Sg), AG K mX8_strays N (fun a : Unit × Sg => (none, N, R0, a.2)) (J_X8_strays_b79  y58 k x1 x2 x3 x4 x5 x6 σ) 79 [some (.ref 141), some (.int x1), some (.int x2), some (.int x3), some (.int x4), some (.int x5), some (.int x6), none] [] σ := by
  intro k
  induction k with
  | zero => intro x1 x2 x3 x4 x5 x6 σ; exact ag_none
  | succ k ih =>
    intro x1 x2 x3 x4 x5 x6 σ
    rw [J_X8_strays_b79]
    refine ag_iload_6 (q := 81) dX8_strays_79 rfl ?_
    refine ag_iconst (q := 82) (v := 4) dX8_strays_81 rfl (by decide) ?_
    refine ag_icmp_ge (tgt := 174) (q := 85) dX8_strays_82 rfl rfl ?_ ?_
    · refine ag_iinc_4 (q := 177) (d := (1)) dX8_strays_174 rfl (Nat.le_of_ble_eq_true rfl) rfl (by decide) ?_
      refine ag_goto (q := 58) dX8_strays_177 rfl ?_
      refine ag_kill_5 ?_
      refine ag_kill_6 ?_
      exact hy58 x1 x2 x3 (x4 + (1)) σ
    refine ag_aload_0 (q := 86) dX8_strays_85 rfl ?_
    refine ag_getR (q := 89) dX8_strays_86 rfl fl8_61 (Nat.lt_of_lt_of_le (by decide : 141 < NT) hN) (congrArg Prod.fst s_141) rfl r_141_34 ?_
    refine ag_iload_5 (q := 91) dX8_strays_89 rfl ?_
    refine ag_iald (q := 92) dX8_strays_91 rfl (Nat.lt_of_lt_of_le (by decide : 159 < NT) hN) s_159 ?_
    refine ag_iload_2 (q := 93) dX8_strays_92 rfl ?_
    refine ag_icmp_ge (tgt := 174) (q := 96) dX8_strays_93 rfl rfl ?_ ?_
    · refine ag_iinc_4 (q := 177) (d := (1)) dX8_strays_174 rfl (Nat.le_of_ble_eq_true rfl) rfl (by decide) ?_
      refine ag_goto (q := 58) dX8_strays_177 rfl ?_
      refine ag_kill_5 ?_
      refine ag_kill_6 ?_
      exact hy58 x1 x2 x3 (x4 + (1)) σ
    refine ag_aload_0 (q := 97) dX8_strays_96 rfl ?_
    refine ag_getR (q := 100) dX8_strays_97 rfl fl8_55 (Nat.lt_of_lt_of_le (by decide : 141 < NT) hN) (congrArg Prod.fst s_141) rfl r_141_31 ?_
    refine ag_bipush (q := 102) (v := 37) dX8_strays_100 rfl (by decide) ?_
    refine ag_iload_1 (q := 103) dX8_strays_102 rfl ?_
    refine ag_iadd (q := 104) dX8_strays_103 rfl ?_
    refine ag_iload_5 (q := 106) dX8_strays_104 rfl ?_
    refine ag_bipush (q := 108) (v := 36) dX8_strays_106 rfl (by decide) ?_
    refine ag_iremK (q := 109) dX8_strays_108 rfl (by decide) ?_
    refine ag_iast (q := 110) dX8_strays_109 rfl (Nat.lt_of_lt_of_le (by decide : 157 < NT) hN) s_157 ?_
    refine ag_aload_0 (q := 111) dX8_strays_110 rfl ?_
    refine ag_getR (q := 114) dX8_strays_111 rfl fl8_55 (Nat.lt_of_lt_of_le (by decide : 141 < NT) hN) (congrArg Prod.fst s_141) rfl r_141_31 ?_
    refine ag_bipush (q := 116) (v := 53) dX8_strays_114 rfl (by decide) ?_
    refine ag_iload_3 (q := 117) dX8_strays_116 rfl ?_
    refine ag_iload_5 (q := 119) dX8_strays_117 rfl ?_
    refine ag_bipush (q := 121) (v := 36) dX8_strays_119 rfl (by decide) ?_
    refine ag_icmp_lt (tgt := 130) (q := 124) dX8_strays_121 rfl rfl ?_ ?_
    · refine ag_iconst (q := 131) (v := 0) dX8_strays_130 rfl (by decide) ?_
      exact A_X8_strays_b131 K hN  y58 hy58 (fun x1 x2 x3 x4 x5 x6 σ => J_X8_strays_b79  y58 k x1 x2 x3 x4 x5 x6 σ) (fun x1 x2 x3 x4 x5 x6 σ => ih x1 x2 x3 x4 x5 x6 σ) x1 x2 x3 x4 x5 x6 (0 : Int32) x3 (53 : Int32) (up σ 157 ((37 : Int32) + x1).toNatClampNeg (rmI x5 (36 : Int32)))
    refine ag_iconst (q := 125) (v := 1) dX8_strays_124 rfl (by decide) ?_
    refine ag_iload_1 (q := 126) dX8_strays_125 rfl ?_
    refine ag_ishl (q := 127) dX8_strays_126 rfl ?_
    refine ag_goto (q := 131) dX8_strays_127 rfl ?_
    exact A_X8_strays_b131 K hN  y58 hy58 (fun x1 x2 x3 x4 x5 x6 σ => J_X8_strays_b79  y58 k x1 x2 x3 x4 x5 x6 σ) (fun x1 x2 x3 x4 x5 x6 σ => ih x1 x2 x3 x4 x5 x6 σ) x1 x2 x3 x4 x5 x6 ((1 : Int32) <<< (x1 &&& 31)) x3 (53 : Int32) (up σ 157 ((37 : Int32) + x1).toNatClampNeg (rmI x5 (36 : Int32)))
def J_X8_strays_b58  : Nat → Int32 → Int32 → Int32 → Int32 → Sg → Option (Unit × Sg)
  | 0, _, _, _, _, _ => none
  | k + 1, x1, x2, x3, x4, σ =>
    (if (σ 141 37) ≤ x4 then (some ((), σ)) else (if inb x4 72 = true then (J_X8_strays_b79  (fun x1 x2 x3 x4 σ => J_X8_strays_b58   k x1 x2 x3 x4 σ) FU x1 x2 x3 x4 (σ 158 x4.toNatClampNeg) (0 : Int32) σ) else none))
set_option maxHeartbeats 4000000 in
theorem A_X8_strays_b58 (K : KT) {N : Nat} (hN : NT ≤ N)  : ∀ (k : Nat) (x1 : Int32) (x2 : Int32) (x3 : Int32) (x4 : Int32) (σ : Sg), AG K mX8_strays N (fun a : Unit × Sg => (none, N, R0, a.2)) (J_X8_strays_b58   k x1 x2 x3 x4 σ) 58 [some (.ref 141), some (.int x1), some (.int x2), some (.int x3), some (.int x4), none, none, none] [] σ := by
  intro k
  induction k with
  | zero => intro x1 x2 x3 x4 σ; exact ag_none
  | succ k ih =>
    intro x1 x2 x3 x4 σ
    rw [J_X8_strays_b58]
    refine ag_iload_4 (q := 60) dX8_strays_58 rfl ?_
    refine ag_aload_0 (q := 61) dX8_strays_60 rfl ?_
    refine ag_getI (q := 64) dX8_strays_61 rfl fl8_249 (Nat.lt_of_lt_of_le (by decide : 141 < NT) hN) (congrArg Prod.fst s_141) rfl ?_
    refine ag_icmp_ge (tgt := 180) (q := 67) dX8_strays_64 rfl rfl ?_ ?_
    · exact ag_vret dX8_strays_180 rfl rfl
    refine ag_aload_0 (q := 68) dX8_strays_67 rfl ?_
    refine ag_getR (q := 71) dX8_strays_68 rfl fl8_58 (Nat.lt_of_lt_of_le (by decide : 141 < NT) hN) (congrArg Prod.fst s_141) rfl r_141_33 ?_
    refine ag_iload_4 (q := 73) dX8_strays_71 rfl ?_
    refine ag_iald (q := 74) dX8_strays_73 rfl (Nat.lt_of_lt_of_le (by decide : 158 < NT) hN) s_158 ?_
    refine ag_istore_5 (q := 76) dX8_strays_74 rfl (Nat.le_of_ble_eq_true rfl) rfl ?_
    refine ag_iconst (q := 77) (v := 0) dX8_strays_76 rfl (by decide) ?_
    refine ag_istore_6 (q := 79) dX8_strays_77 rfl (Nat.le_of_ble_eq_true rfl) rfl ?_
    exact A_X8_strays_b79 K hN  (fun x1 x2 x3 x4 σ => J_X8_strays_b58   k x1 x2 x3 x4 σ) (fun x1 x2 x3 x4 σ => ih x1 x2 x3 x4 σ) FU x1 x2 x3 x4 (σ 158 x4.toNatClampNeg) (0 : Int32) σ
def J_X8_strays_b2  : Nat → Int32 → Int32 → Int32 → Sg → Option (Unit × Sg)
  | 0, _, _, _, _ => none
  | k + 1, x1, x2, x3, σ =>
    (if (72 : Int32) ≤ x3 then (bd2 (J_X8_asItIs  (up σ 141 37 (0 : Int32))) fun r27 s27 => (bd1 (J_X8_nowOne x1 s27) fun r47 => (bd2 (J_X8_reaches r47 (-1 : Int32) (0 : Int32) s27) fun r52 s52 => (J_X8_strays_b58   FU x1 x2 ((s27 157 53) &&& (((1 : Int32) <<< (x1 &&& 31)) ^^^ (-1 : Int32))) (0 : Int32) s52)))) else (if inb x3 72 = true then (J_X8_strays_b2   k x1 x2 (x3 + (1)) (up σ 159 x3.toNatClampNeg (-1 : Int32))) else none))
set_option maxHeartbeats 4000000 in
theorem A_X8_strays_b2 (K : KT) {N : Nat} (hN : NT ≤ N)  : ∀ (k : Nat) (x1 : Int32) (x2 : Int32) (x3 : Int32) (σ : Sg), AG K mX8_strays N (fun a : Unit × Sg => (none, N, R0, a.2)) (J_X8_strays_b2   k x1 x2 x3 σ) 2 [some (.ref 141), some (.int x1), some (.int x2), some (.int x3), none, none, none, none] [] σ := by
  intro k
  induction k with
  | zero => intro x1 x2 x3 σ; exact ag_none
  | succ k ih =>
    intro x1 x2 x3 σ
    rw [J_X8_strays_b2]
    refine ag_iload_3 (q := 3) dX8_strays_2 rfl ?_
    refine ag_bipush (q := 5) (v := 72) dX8_strays_3 rfl (by decide) ?_
    refine ag_icmp_ge (tgt := 21) (q := 8) dX8_strays_5 rfl rfl ?_ ?_
    · refine ag_aload_0 (q := 22) dX8_strays_21 rfl ?_
      refine ag_iconst (q := 23) (v := 0) dX8_strays_22 rfl (by decide) ?_
      refine ag_putI (q := 26) dX8_strays_23 rfl fl8_249 (Nat.lt_of_lt_of_le (by decide : 141 < NT) hN) (congrArg Prod.fst s_141) rfl ?_
      refine ag_aload_0 (q := 27) dX8_strays_26 rfl ?_
      refine ag_callV_mU (q := 30) (av := []) (rest := []) dX8_strays_27 rfl lk8_228 (C_X8_asItIs hN  _) (by decide) (Nat.le_of_ble_eq_true rfl) (Nat.lt_of_lt_of_le (by decide : 141 < NT) hN) (congrArg Prod.fst s_141) (by decide) (fun _ => rfl) (Nat.le_of_ble_eq_true rfl) rfl (fun r27 s27 e27 => ?_)
      refine ag_aload_0 (q := 31) dX8_strays_30 rfl ?_
      refine ag_getR (q := 34) dX8_strays_31 rfl fl8_55 (Nat.lt_of_lt_of_le (by decide : 141 < NT) hN) (congrArg Prod.fst s_141) rfl r_141_31 ?_
      refine ag_bipush (q := 36) (v := 53) dX8_strays_34 rfl (by decide) ?_
      refine ag_ialdK (q := 37) (k := 53) dX8_strays_36 rfl (Nat.lt_of_lt_of_le (by decide : 157 < NT) hN) s_157 (by decide) (by decide) ?_
      refine ag_iconst (q := 38) (v := 1) dX8_strays_37 rfl (by decide) ?_
      refine ag_iload_1 (q := 39) dX8_strays_38 rfl ?_
      refine ag_ishl (q := 40) dX8_strays_39 rfl ?_
      refine ag_iconst (q := 41) (v := -1) dX8_strays_40 rfl (by decide) ?_
      refine ag_ixor (q := 42) dX8_strays_41 rfl ?_
      refine ag_iand (q := 43) dX8_strays_42 rfl ?_
      refine ag_istore_3 (q := 44) dX8_strays_43 rfl (Nat.le_of_ble_eq_true rfl) rfl ?_
      refine ag_aload_0 (q := 45) dX8_strays_44 rfl ?_
      refine ag_aload_0 (q := 46) dX8_strays_45 rfl ?_
      refine ag_iload_1 (q := 47) dX8_strays_46 rfl ?_
      refine ag_callV_pI (q := 50) (av := [.int _]) (rest := [.ref _]) dX8_strays_47 rfl lk8_252 (C_X8_nowOne hN x1 _) (by decide) (Nat.le_of_ble_eq_true rfl) (Nat.lt_of_lt_of_le (by decide : 141 < NT) hN) (congrArg Prod.fst s_141) (by decide) (fun _ => rfl) (Nat.le_of_ble_eq_true rfl) rfl (fun r47 e47 => ?_)
      refine ag_iconst (q := 51) (v := -1) dX8_strays_50 rfl (by decide) ?_
      refine ag_iconst (q := 52) (v := 0) dX8_strays_51 rfl (by decide) ?_
      refine ag_callV_mU (q := 55) (av := [.int _, .int _, .int _]) (rest := []) dX8_strays_52 rfl lk8_255 (C_X8_reaches hN r47 (-1 : Int32) (0 : Int32) _) (by decide) (Nat.le_of_ble_eq_true rfl) (Nat.lt_of_lt_of_le (by decide : 141 < NT) hN) (congrArg Prod.fst s_141) (by decide) (fun _ => rfl) (Nat.le_of_ble_eq_true rfl) rfl (fun r52 s52 e52 => ?_)
      refine ag_iconst (q := 56) (v := 0) dX8_strays_55 rfl (by decide) ?_
      refine ag_istore_4 (q := 58) dX8_strays_56 rfl (Nat.le_of_ble_eq_true rfl) rfl ?_
      exact A_X8_strays_b58 K hN   FU x1 x2 ((s27 157 53) &&& (((1 : Int32) <<< (x1 &&& 31)) ^^^ (-1 : Int32))) (0 : Int32) s52
    refine ag_aload_0 (q := 9) dX8_strays_8 rfl ?_
    refine ag_getR (q := 12) dX8_strays_9 rfl fl8_61 (Nat.lt_of_lt_of_le (by decide : 141 < NT) hN) (congrArg Prod.fst s_141) rfl r_141_34 ?_
    refine ag_iload_3 (q := 13) dX8_strays_12 rfl ?_
    refine ag_iconst (q := 14) (v := -1) dX8_strays_13 rfl (by decide) ?_
    refine ag_iast (q := 15) dX8_strays_14 rfl (Nat.lt_of_lt_of_le (by decide : 159 < NT) hN) s_159 ?_
    refine ag_iinc_3 (q := 18) (d := (1)) dX8_strays_15 rfl (Nat.le_of_ble_eq_true rfl) rfl (by decide) ?_
    refine ag_goto (q := 2) dX8_strays_18 rfl ?_
    exact ih x1 x2 (x3 + (1)) (up σ 159 x3.toNatClampNeg (-1 : Int32))
def J_X8_strays (a1 : Int32) (a2 : Int32) (σ : Sg) : Option (Unit × Sg) :=
  (J_X8_strays_b2   FU a1 a2 (0 : Int32) σ)
set_option maxHeartbeats 4000000 in
theorem A_X8_strays (K : KT) {N : Nat} (hN : NT ≤ N) (a1 : Int32) (a2 : Int32) (σ : Sg) : AG K mX8_strays N (fun a : Unit × Sg => (none, N, R0, a.2)) (J_X8_strays a1 a2 σ) 0 [some (.ref 141), some (.int a1), some (.int a2), none, none, none, none, none] [] σ := by
  unfold J_X8_strays
  refine ag_iconst (q := 1) (v := 0) dX8_strays_0 rfl (by decide) ?_
  refine ag_istore_3 (q := 2) dX8_strays_1 rfl (Nat.le_of_ble_eq_true rfl) rfl ?_
  exact A_X8_strays_b2 K hN   FU a1 a2 (0 : Int32) σ
theorem C_X8_strays {N : Nat} (hN : NT ≤ N) (a1 : Int32) (a2 : Int32) (σ : Sg) : ∀ r s', J_X8_strays a1 a2 σ = some (r, s') → AMc yX8_strays mX8_strays [.ref 141, .int a1, .int a2] N R0 σ (none, N, R0, s') := fun r s' e => AMc.of (L := [some (.ref 141), some (.int a1), some (.int a2), none, none, none, none, none]) (by decide) rfl (fun _ => rfl) (fun _ => Nat.le_of_ble_eq_true rfl) (Nat.le_refl _) (fun K => A_X8_strays K hN a1 a2 σ _ e)
def J_X8_fewest_b137  : Nat → Int32 → Int32 → Sg → Option (Int32 × Sg)
  | 0, _, _, _ => none
  | k + 1, x3, x4, σ =>
    (if inb x4 72 = true then (if (σ 159 x4.toNatClampNeg) ≤ (x3 + (1 : Int32)) then (if inb x4 72 = true then (some ((σ 161 x4.toNatClampNeg), σ)) else none) else (if inb x4 72 = true then (J_X8_fewest_b137   k x3 (σ 160 x4.toNatClampNeg) σ) else none)) else none)
set_option maxHeartbeats 4000000 in
theorem A_X8_fewest_b137 (K : KT) {N : Nat} (hN : NT ≤ N)  : ∀ (k : Nat) (x3 : Int32) (x4 : Int32) (σ : Sg), AG K mX8_fewest N (fun a : Int32 × Sg => (some (.int a.1), N, R0, a.2)) (J_X8_fewest_b137   k x3 x4 σ) 137 [some (.ref 141), none, none, some (.int x3), some (.int x4), none] [] σ := by
  intro k
  induction k with
  | zero => intro x3 x4 σ; exact ag_none
  | succ k ih =>
    intro x3 x4 σ
    rw [J_X8_fewest_b137]
    refine ag_aload_0 (q := 138) dX8_fewest_137 rfl ?_
    refine ag_getR (q := 141) dX8_fewest_138 rfl fl8_61 (Nat.lt_of_lt_of_le (by decide : 141 < NT) hN) (congrArg Prod.fst s_141) rfl r_141_34 ?_
    refine ag_iload_4 (q := 143) dX8_fewest_141 rfl ?_
    refine ag_iald (q := 144) dX8_fewest_143 rfl (Nat.lt_of_lt_of_le (by decide : 159 < NT) hN) s_159 ?_
    refine ag_iload_3 (q := 145) dX8_fewest_144 rfl ?_
    refine ag_iconst (q := 146) (v := 1) dX8_fewest_145 rfl (by decide) ?_
    refine ag_iadd (q := 147) dX8_fewest_146 rfl ?_
    refine ag_icmp_le (tgt := 162) (q := 150) dX8_fewest_147 rfl rfl ?_ ?_
    · refine ag_aload_0 (q := 163) dX8_fewest_162 rfl ?_
      refine ag_getR (q := 166) dX8_fewest_163 rfl fl8_67 (Nat.lt_of_lt_of_le (by decide : 141 < NT) hN) (congrArg Prod.fst s_141) rfl r_141_36 ?_
      refine ag_iload_4 (q := 168) dX8_fewest_166 rfl ?_
      refine ag_iald (q := 169) dX8_fewest_168 rfl (Nat.lt_of_lt_of_le (by decide : 161 < NT) hN) s_161 ?_
      exact ag_iret dX8_fewest_169 rfl rfl
    refine ag_aload_0 (q := 151) dX8_fewest_150 rfl ?_
    refine ag_getR (q := 154) dX8_fewest_151 rfl fl8_64 (Nat.lt_of_lt_of_le (by decide : 141 < NT) hN) (congrArg Prod.fst s_141) rfl r_141_35 ?_
    refine ag_iload_4 (q := 156) dX8_fewest_154 rfl ?_
    refine ag_iald (q := 157) dX8_fewest_156 rfl (Nat.lt_of_lt_of_le (by decide : 160 < NT) hN) s_160 ?_
    refine ag_istore_4 (q := 159) dX8_fewest_157 rfl (Nat.le_of_ble_eq_true rfl) rfl ?_
    refine ag_goto (q := 137) dX8_fewest_159 rfl ?_
    exact ih x3 (σ 160 x4.toNatClampNeg) σ
def J_X8_fewest_b59  : Nat → Int32 → Int32 → Int32 → Int32 → Sg → Option (Int32 × Sg)
  | 0, _, _, _, _, _ => none
  | k + 1, x2, x3, x4, x5, σ =>
    (if x5 < 0 then (if 0 ≤ x4 then (if inb x4 72 = true then (if x3 < 0 then (if 0 ≤ x3 then (some ((-4 : Int32), σ)) else (some ((σ 159 x4.toNatClampNeg), σ))) else (if x3 < (σ 159 x4.toNatClampNeg) then (J_X8_fewest_b137   FU x3 x4 σ) else (if 0 ≤ x3 then (some ((-4 : Int32), σ)) else (some ((σ 159 x4.toNatClampNeg), σ))))) else none) else (some ((-4 : Int32), σ))) else (if inb x5 72 = true then (if (rmI (σ 158 x5.toNatClampNeg) (36 : Int32)) = x2 then (if inb x5 72 = true then (J_X8_fewest_b59   k x2 x3 (σ 158 x5.toNatClampNeg) (x5 + (-1)) σ) else none) else (J_X8_fewest_b59   k x2 x3 x4 (x5 + (-1)) σ)) else none))
set_option maxHeartbeats 4000000 in
theorem A_X8_fewest_b59 (K : KT) {N : Nat} (hN : NT ≤ N)  : ∀ (k : Nat) (x2 : Int32) (x3 : Int32) (x4 : Int32) (x5 : Int32) (σ : Sg), AG K mX8_fewest N (fun a : Int32 × Sg => (some (.int a.1), N, R0, a.2)) (J_X8_fewest_b59   k x2 x3 x4 x5 σ) 59 [some (.ref 141), none, some (.int x2), some (.int x3), some (.int x4), some (.int x5)] [] σ := by
  intro k
  induction k with
  | zero => intro x2 x3 x4 x5 σ; exact ag_none
  | succ k ih =>
    intro x2 x3 x4 x5 σ
    rw [J_X8_fewest_b59]
    refine ag_iload_5 (q := 61) dX8_fewest_59 rfl ?_
    refine ag_if_lt (tgt := 98) (q := 64) dX8_fewest_61 rfl rfl ?_ ?_
    · refine ag_iload_4 (q := 100) dX8_fewest_98 rfl ?_
      refine ag_if_ge (tgt := 106) (q := 103) dX8_fewest_100 rfl rfl ?_ ?_
      · refine ag_aload_0 (q := 107) dX8_fewest_106 rfl ?_
        refine ag_getR (q := 110) dX8_fewest_107 rfl fl8_61 (Nat.lt_of_lt_of_le (by decide : 141 < NT) hN) (congrArg Prod.fst s_141) rfl r_141_34 ?_
        refine ag_iload_4 (q := 112) dX8_fewest_110 rfl ?_
        refine ag_iald (q := 113) dX8_fewest_112 rfl (Nat.lt_of_lt_of_le (by decide : 159 < NT) hN) s_159 ?_
        refine ag_istore_5 (q := 115) dX8_fewest_113 rfl (Nat.le_of_ble_eq_true rfl) rfl ?_
        refine ag_iload_3 (q := 116) dX8_fewest_115 rfl ?_
        refine ag_if_lt (tgt := 125) (q := 119) dX8_fewest_116 rfl rfl ?_ ?_
        · refine ag_iload_3 (q := 126) dX8_fewest_125 rfl ?_
          refine ag_if_ge (tgt := 134) (q := 129) dX8_fewest_126 rfl rfl ?_ ?_
          · refine ag_bipush (q := 136) (v := -4) dX8_fewest_134 rfl (by decide) ?_
            exact ag_iret dX8_fewest_136 rfl rfl
          refine ag_iload_5 (q := 131) dX8_fewest_129 rfl ?_
          refine ag_goto (q := 136) dX8_fewest_131 rfl ?_
          exact ag_iret dX8_fewest_136 rfl rfl
        refine ag_iload_3 (q := 120) dX8_fewest_119 rfl ?_
        refine ag_iload_5 (q := 122) dX8_fewest_120 rfl ?_
        refine ag_icmp_lt (tgt := 137) (q := 125) dX8_fewest_122 rfl rfl ?_ ?_
        · refine ag_kill_2 ?_
          refine ag_kill_5 ?_
          exact A_X8_fewest_b137 K hN   FU x3 x4 σ
        refine ag_iload_3 (q := 126) dX8_fewest_125 rfl ?_
        refine ag_if_ge (tgt := 134) (q := 129) dX8_fewest_126 rfl rfl ?_ ?_
        · refine ag_bipush (q := 136) (v := -4) dX8_fewest_134 rfl (by decide) ?_
          exact ag_iret dX8_fewest_136 rfl rfl
        refine ag_iload_5 (q := 131) dX8_fewest_129 rfl ?_
        refine ag_goto (q := 136) dX8_fewest_131 rfl ?_
        exact ag_iret dX8_fewest_136 rfl rfl
      refine ag_bipush (q := 105) (v := -4) dX8_fewest_103 rfl (by decide) ?_
      exact ag_iret dX8_fewest_105 rfl rfl
    refine ag_aload_0 (q := 65) dX8_fewest_64 rfl ?_
    refine ag_getR (q := 68) dX8_fewest_65 rfl fl8_58 (Nat.lt_of_lt_of_le (by decide : 141 < NT) hN) (congrArg Prod.fst s_141) rfl r_141_33 ?_
    refine ag_iload_5 (q := 70) dX8_fewest_68 rfl ?_
    refine ag_iald (q := 71) dX8_fewest_70 rfl (Nat.lt_of_lt_of_le (by decide : 158 < NT) hN) s_158 ?_
    refine ag_bipush (q := 73) (v := 36) dX8_fewest_71 rfl (by decide) ?_
    refine ag_iremK (q := 74) dX8_fewest_73 rfl (by decide) ?_
    refine ag_iload_2 (q := 75) dX8_fewest_74 rfl ?_
    refine ag_icmp_ne (tgt := 88) (q := 78) dX8_fewest_75 rfl rfl ?_ ?_
    · refine ag_iload_4 (q := 90) dX8_fewest_88 rfl ?_
      refine ag_istore_4 (q := 92) dX8_fewest_90 rfl (Nat.le_of_ble_eq_true rfl) rfl ?_
      refine ag_iinc_5 (q := 95) (d := (-1)) dX8_fewest_92 rfl (Nat.le_of_ble_eq_true rfl) rfl (by decide) ?_
      refine ag_goto (q := 59) dX8_fewest_95 rfl ?_
      exact ih x2 x3 x4 (x5 + (-1)) σ
    refine ag_aload_0 (q := 79) dX8_fewest_78 rfl ?_
    refine ag_getR (q := 82) dX8_fewest_79 rfl fl8_58 (Nat.lt_of_lt_of_le (by decide : 141 < NT) hN) (congrArg Prod.fst s_141) rfl r_141_33 ?_
    refine ag_iload_5 (q := 84) dX8_fewest_82 rfl ?_
    refine ag_iald (q := 85) dX8_fewest_84 rfl (Nat.lt_of_lt_of_le (by decide : 158 < NT) hN) s_158 ?_
    refine ag_goto (q := 90) dX8_fewest_85 rfl ?_
    refine ag_istore_4 (q := 92) dX8_fewest_90 rfl (Nat.le_of_ble_eq_true rfl) rfl ?_
    refine ag_iinc_5 (q := 95) (d := (-1)) dX8_fewest_92 rfl (Nat.le_of_ble_eq_true rfl) rfl (by decide) ?_
    refine ag_goto (q := 59) dX8_fewest_95 rfl ?_
    exact ih x2 x3 (σ 158 x5.toNatClampNeg) (x5 + (-1)) σ
def J_X8_fewest (a1 : Int32) (a2 : Int32) (a3 : Int32) (σ : Sg) : Option (Int32 × Sg) :=
  (bd1 (J_X8_isBeast a1 σ) fun r2 => (if r2 = 0 then (some ((-1 : Int32), σ)) else (bd1 (J_X8_isSquare a2 σ) fun r10 => (if r10 = 0 then (some ((-1 : Int32), σ)) else (if (-1 : Int32) ≤ a3 then (if inb ((37 : Int32) + a1) 54 = true then (if (σ 146 ((37 : Int32) + a1).toNatClampNeg) = (36 : Int32) then (some ((-2 : Int32), σ)) else (bd2 (J_X8_strays a1 (12 : Int32) σ) fun r44 s44 => (J_X8_fewest_b59   FU a2 a3 (-4 : Int32) ((s44 141 37) - (1 : Int32)) s44))) else none) else (some ((-1 : Int32), σ)))))))
set_option maxHeartbeats 4000000 in
theorem A_X8_fewest (K : KT) {N : Nat} (hN : NT ≤ N) (a1 : Int32) (a2 : Int32) (a3 : Int32) (σ : Sg) : AG K mX8_fewest N (fun a : Int32 × Sg => (some (.int a.1), N, R0, a.2)) (J_X8_fewest a1 a2 a3 σ) 0 [some (.ref 141), some (.int a1), some (.int a2), some (.int a3), none, none] [] σ := by
  unfold J_X8_fewest
  refine ag_aload_0 (q := 1) dX8_fewest_0 rfl ?_
  refine ag_iload_1 (q := 2) dX8_fewest_1 rfl ?_
  refine ag_callV_pI (q := 5) (av := [.int _]) (rest := []) dX8_fewest_2 rfl lk8_231 (C_X8_isBeast hN a1 _) (by decide) (Nat.le_of_ble_eq_true rfl) (Nat.lt_of_lt_of_le (by decide : 141 < NT) hN) (congrArg Prod.fst s_141) (by decide) (fun _ => rfl) (Nat.le_of_ble_eq_true rfl) rfl (fun r2 e2 => ?_)
  refine ag_if_eq (tgt := 21) (q := 8) dX8_fewest_5 rfl rfl ?_ ?_
  · refine ag_iconst (q := 22) (v := -1) dX8_fewest_21 rfl (by decide) ?_
    exact ag_iret dX8_fewest_22 rfl rfl
  refine ag_aload_0 (q := 9) dX8_fewest_8 rfl ?_
  refine ag_iload_2 (q := 10) dX8_fewest_9 rfl ?_
  refine ag_callV_pI (q := 13) (av := [.int _]) (rest := []) dX8_fewest_10 rfl lk8_225 (C_X8_isSquare hN a2 _) (by decide) (Nat.le_of_ble_eq_true rfl) (Nat.lt_of_lt_of_le (by decide : 141 < NT) hN) (congrArg Prod.fst s_141) (by decide) (fun _ => rfl) (Nat.le_of_ble_eq_true rfl) rfl (fun r10 e10 => ?_)
  refine ag_if_eq (tgt := 21) (q := 16) dX8_fewest_13 rfl rfl ?_ ?_
  · refine ag_iconst (q := 22) (v := -1) dX8_fewest_21 rfl (by decide) ?_
    exact ag_iret dX8_fewest_22 rfl rfl
  refine ag_iload_3 (q := 17) dX8_fewest_16 rfl ?_
  refine ag_iconst (q := 18) (v := -1) dX8_fewest_17 rfl (by decide) ?_
  refine ag_icmp_ge (tgt := 23) (q := 21) dX8_fewest_18 rfl rfl ?_ ?_
  · refine ag_aload_0 (q := 24) dX8_fewest_23 rfl ?_
    refine ag_getR (q := 27) dX8_fewest_24 rfl fl8_22 (Nat.lt_of_lt_of_le (by decide : 141 < NT) hN) (congrArg Prod.fst s_141) rfl r_141_10 ?_
    refine ag_bipush (q := 29) (v := 37) dX8_fewest_27 rfl (by decide) ?_
    refine ag_iload_1 (q := 30) dX8_fewest_29 rfl ?_
    refine ag_iadd (q := 31) dX8_fewest_30 rfl ?_
    refine ag_iald (q := 32) dX8_fewest_31 rfl (Nat.lt_of_lt_of_le (by decide : 146 < NT) hN) s_146 ?_
    refine ag_bipush (q := 34) (v := 36) dX8_fewest_32 rfl (by decide) ?_
    refine ag_icmp_ne (tgt := 40) (q := 37) dX8_fewest_34 rfl rfl ?_ ?_
    · refine ag_aload_0 (q := 41) dX8_fewest_40 rfl ?_
      refine ag_iload_1 (q := 42) dX8_fewest_41 rfl ?_
      refine ag_bipush (q := 44) (v := 12) dX8_fewest_42 rfl (by decide) ?_
      refine ag_callV_mU (q := 47) (av := [.int _, .int _]) (rest := []) dX8_fewest_44 rfl lk8_258 (C_X8_strays hN a1 (12 : Int32) _) (by decide) (Nat.le_of_ble_eq_true rfl) (Nat.lt_of_lt_of_le (by decide : 141 < NT) hN) (congrArg Prod.fst s_141) (by decide) (fun _ => rfl) (Nat.le_of_ble_eq_true rfl) rfl (fun r44 s44 e44 => ?_)
      refine ag_bipush (q := 49) (v := -4) dX8_fewest_47 rfl (by decide) ?_
      refine ag_istore_4 (q := 51) dX8_fewest_49 rfl (Nat.le_of_ble_eq_true rfl) rfl ?_
      refine ag_aload_0 (q := 52) dX8_fewest_51 rfl ?_
      refine ag_getI (q := 55) dX8_fewest_52 rfl fl8_249 (Nat.lt_of_lt_of_le (by decide : 141 < NT) hN) (congrArg Prod.fst s_141) rfl ?_
      refine ag_iconst (q := 56) (v := 1) dX8_fewest_55 rfl (by decide) ?_
      refine ag_isub (q := 57) dX8_fewest_56 rfl ?_
      refine ag_istore_5 (q := 59) dX8_fewest_57 rfl (Nat.le_of_ble_eq_true rfl) rfl ?_
      refine ag_kill_1 ?_
      exact A_X8_fewest_b59 K hN   FU a2 a3 (-4 : Int32) ((s44 141 37) - (1 : Int32)) s44
    refine ag_bipush (q := 39) (v := -2) dX8_fewest_37 rfl (by decide) ?_
    exact ag_iret dX8_fewest_39 rfl rfl
  refine ag_iconst (q := 22) (v := -1) dX8_fewest_21 rfl (by decide) ?_
  exact ag_iret dX8_fewest_22 rfl rfl
theorem C_X8_fewest {N : Nat} (hN : NT ≤ N) (a1 : Int32) (a2 : Int32) (a3 : Int32) (σ : Sg) : ∀ r s', J_X8_fewest a1 a2 a3 σ = some (r, s') → AMc yX8_fewest mX8_fewest [.ref 141, .int a1, .int a2, .int a3] N R0 σ (some (.int r), N, R0, s') := fun r s' e => AMc.of (L := [some (.ref 141), some (.int a1), some (.int a2), some (.int a3), none, none]) (by decide) rfl (fun _ => rfl) (fun _ => Nat.le_of_ble_eq_true rfl) (Nat.le_refl _) (fun K => A_X8_fewest K hN a1 a2 a3 σ _ e)
def J_X8_stray_b48  : Nat → Int32 → Int32 → Sg → Option (Int32 × Sg)
  | 0, _, _, _ => none
  | k + 1, x3, x4, σ =>
    (if (36 : Int32) ≤ x4 then (some (x3, σ)) else (if inb x4 72 = true then (if 0 ≤ (σ 159 x4.toNatClampNeg) then (J_X8_stray_b48   k (x3 + (1 : Int32)) (x4 + (1)) σ) else (if inb (x4 + (36 : Int32)) 72 = true then (if (σ 159 (x4 + (36 : Int32)).toNatClampNeg) < 0 then (J_X8_stray_b48   k (x3 + (0 : Int32)) (x4 + (1)) σ) else (J_X8_stray_b48   k (x3 + (1 : Int32)) (x4 + (1)) σ)) else none)) else none))
set_option maxHeartbeats 4000000 in
theorem A_X8_stray_b48 (K : KT) {N : Nat} (hN : NT ≤ N)  : ∀ (k : Nat) (x3 : Int32) (x4 : Int32) (σ : Sg), AG K mX8_stray N (fun a : Int32 × Sg => (some (.int a.1), N, R0, a.2)) (J_X8_stray_b48   k x3 x4 σ) 48 [some (.ref 141), none, none, some (.int x3), some (.int x4)] [] σ := by
  intro k
  induction k with
  | zero => intro x3 x4 σ; exact ag_none
  | succ k ih =>
    intro x3 x4 σ
    rw [J_X8_stray_b48]
    refine ag_iload_4 (q := 50) dX8_stray_48 rfl ?_
    refine ag_bipush (q := 52) (v := 36) dX8_stray_50 rfl (by decide) ?_
    refine ag_icmp_ge (tgt := 92) (q := 55) dX8_stray_52 rfl rfl ?_ ?_
    · refine ag_iload_3 (q := 93) dX8_stray_92 rfl ?_
      exact ag_iret dX8_stray_93 rfl rfl
    refine ag_iload_3 (q := 56) dX8_stray_55 rfl ?_
    refine ag_aload_0 (q := 57) dX8_stray_56 rfl ?_
    refine ag_getR (q := 60) dX8_stray_57 rfl fl8_61 (Nat.lt_of_lt_of_le (by decide : 141 < NT) hN) (congrArg Prod.fst s_141) rfl r_141_34 ?_
    refine ag_iload_4 (q := 62) dX8_stray_60 rfl ?_
    refine ag_iald (q := 63) dX8_stray_62 rfl (Nat.lt_of_lt_of_le (by decide : 159 < NT) hN) s_159 ?_
    refine ag_if_ge (tgt := 79) (q := 66) dX8_stray_63 rfl rfl ?_ ?_
    · refine ag_iconst (q := 80) (v := 1) dX8_stray_79 rfl (by decide) ?_
      refine ag_goto (q := 84) dX8_stray_80 rfl ?_
      refine ag_iadd (q := 85) dX8_stray_84 rfl ?_
      refine ag_istore_3 (q := 86) dX8_stray_85 rfl (Nat.le_of_ble_eq_true rfl) rfl ?_
      refine ag_iinc_4 (q := 89) (d := (1)) dX8_stray_86 rfl (Nat.le_of_ble_eq_true rfl) rfl (by decide) ?_
      refine ag_goto (q := 48) dX8_stray_89 rfl ?_
      exact ih (x3 + (1 : Int32)) (x4 + (1)) σ
    refine ag_aload_0 (q := 67) dX8_stray_66 rfl ?_
    refine ag_getR (q := 70) dX8_stray_67 rfl fl8_61 (Nat.lt_of_lt_of_le (by decide : 141 < NT) hN) (congrArg Prod.fst s_141) rfl r_141_34 ?_
    refine ag_iload_4 (q := 72) dX8_stray_70 rfl ?_
    refine ag_bipush (q := 74) (v := 36) dX8_stray_72 rfl (by decide) ?_
    refine ag_iadd (q := 75) dX8_stray_74 rfl ?_
    refine ag_iald (q := 76) dX8_stray_75 rfl (Nat.lt_of_lt_of_le (by decide : 159 < NT) hN) s_159 ?_
    refine ag_if_lt (tgt := 83) (q := 79) dX8_stray_76 rfl rfl ?_ ?_
    · refine ag_iconst (q := 84) (v := 0) dX8_stray_83 rfl (by decide) ?_
      refine ag_iadd (q := 85) dX8_stray_84 rfl ?_
      refine ag_istore_3 (q := 86) dX8_stray_85 rfl (Nat.le_of_ble_eq_true rfl) rfl ?_
      refine ag_iinc_4 (q := 89) (d := (1)) dX8_stray_86 rfl (Nat.le_of_ble_eq_true rfl) rfl (by decide) ?_
      refine ag_goto (q := 48) dX8_stray_89 rfl ?_
      exact ih (x3 + (0 : Int32)) (x4 + (1)) σ
    refine ag_iconst (q := 80) (v := 1) dX8_stray_79 rfl (by decide) ?_
    refine ag_goto (q := 84) dX8_stray_80 rfl ?_
    refine ag_iadd (q := 85) dX8_stray_84 rfl ?_
    refine ag_istore_3 (q := 86) dX8_stray_85 rfl (Nat.le_of_ble_eq_true rfl) rfl ?_
    refine ag_iinc_4 (q := 89) (d := (1)) dX8_stray_86 rfl (Nat.le_of_ble_eq_true rfl) rfl (by decide) ?_
    refine ag_goto (q := 48) dX8_stray_89 rfl ?_
    exact ih (x3 + (1 : Int32)) (x4 + (1)) σ
def J_X8_stray (a1 : Int32) (a2 : Int32) (σ : Sg) : Option (Int32 × Sg) :=
  (bd1 (J_X8_isBeast a1 σ) fun r2 => (if r2 = 0 then (some ((-1 : Int32), σ)) else (bd1 (J_X8_in a2 (0 : Int32) (6 : Int32) σ) fun r12 => (if r12 = 0 then (some ((-1 : Int32), σ)) else (if inb ((37 : Int32) + a1) 54 = true then (if (σ 146 ((37 : Int32) + a1).toNatClampNeg) = (36 : Int32) then (some ((-2 : Int32), σ)) else (bd2 (J_X8_strays a1 a2 σ) fun r40 s40 => (J_X8_stray_b48   FU (0 : Int32) (0 : Int32) s40))) else none)))))
set_option maxHeartbeats 4000000 in
theorem A_X8_stray (K : KT) {N : Nat} (hN : NT ≤ N) (a1 : Int32) (a2 : Int32) (σ : Sg) : AG K mX8_stray N (fun a : Int32 × Sg => (some (.int a.1), N, R0, a.2)) (J_X8_stray a1 a2 σ) 0 [some (.ref 141), some (.int a1), some (.int a2), none, none] [] σ := by
  unfold J_X8_stray
  refine ag_aload_0 (q := 1) dX8_stray_0 rfl ?_
  refine ag_iload_1 (q := 2) dX8_stray_1 rfl ?_
  refine ag_callV_pI (q := 5) (av := [.int _]) (rest := []) dX8_stray_2 rfl lk8_231 (C_X8_isBeast hN a1 _) (by decide) (Nat.le_of_ble_eq_true rfl) (Nat.lt_of_lt_of_le (by decide : 141 < NT) hN) (congrArg Prod.fst s_141) (by decide) (fun _ => rfl) (Nat.le_of_ble_eq_true rfl) rfl (fun r2 e2 => ?_)
  refine ag_if_eq (tgt := 18) (q := 8) dX8_stray_5 rfl rfl ?_ ?_
  · refine ag_iconst (q := 19) (v := -1) dX8_stray_18 rfl (by decide) ?_
    exact ag_iret dX8_stray_19 rfl rfl
  refine ag_iload_2 (q := 9) dX8_stray_8 rfl ?_
  refine ag_iconst (q := 10) (v := 0) dX8_stray_9 rfl (by decide) ?_
  refine ag_bipush (q := 12) (v := 6) dX8_stray_10 rfl (by decide) ?_
  refine ag_callS_pI (q := 15) (av := [.int _, .int _, .int _]) (rest := []) dX8_stray_12 rfl lk8_115 (C_X8_in hN a2 (0 : Int32) (6 : Int32) _) (by decide) (Nat.le_of_ble_eq_true rfl) (fun _ => rfl) (Nat.le_of_ble_eq_true rfl) rfl (fun r12 e12 => ?_)
  refine ag_if_ne (tgt := 20) (q := 18) dX8_stray_15 rfl rfl ?_ ?_
  · refine ag_aload_0 (q := 21) dX8_stray_20 rfl ?_
    refine ag_getR (q := 24) dX8_stray_21 rfl fl8_22 (Nat.lt_of_lt_of_le (by decide : 141 < NT) hN) (congrArg Prod.fst s_141) rfl r_141_10 ?_
    refine ag_bipush (q := 26) (v := 37) dX8_stray_24 rfl (by decide) ?_
    refine ag_iload_1 (q := 27) dX8_stray_26 rfl ?_
    refine ag_iadd (q := 28) dX8_stray_27 rfl ?_
    refine ag_iald (q := 29) dX8_stray_28 rfl (Nat.lt_of_lt_of_le (by decide : 146 < NT) hN) s_146 ?_
    refine ag_bipush (q := 31) (v := 36) dX8_stray_29 rfl (by decide) ?_
    refine ag_icmp_ne (tgt := 37) (q := 34) dX8_stray_31 rfl rfl ?_ ?_
    · refine ag_aload_0 (q := 38) dX8_stray_37 rfl ?_
      refine ag_iload_1 (q := 39) dX8_stray_38 rfl ?_
      refine ag_iload_2 (q := 40) dX8_stray_39 rfl ?_
      refine ag_callV_mU (q := 43) (av := [.int _, .int _]) (rest := []) dX8_stray_40 rfl lk8_258 (C_X8_strays hN a1 a2 _) (by decide) (Nat.le_of_ble_eq_true rfl) (Nat.lt_of_lt_of_le (by decide : 141 < NT) hN) (congrArg Prod.fst s_141) (by decide) (fun _ => rfl) (Nat.le_of_ble_eq_true rfl) rfl (fun r40 s40 e40 => ?_)
      refine ag_iconst (q := 44) (v := 0) dX8_stray_43 rfl (by decide) ?_
      refine ag_istore_3 (q := 45) dX8_stray_44 rfl (Nat.le_of_ble_eq_true rfl) rfl ?_
      refine ag_iconst (q := 46) (v := 0) dX8_stray_45 rfl (by decide) ?_
      refine ag_istore_4 (q := 48) dX8_stray_46 rfl (Nat.le_of_ble_eq_true rfl) rfl ?_
      refine ag_kill_1 ?_
      refine ag_kill_2 ?_
      exact A_X8_stray_b48 K hN   FU (0 : Int32) (0 : Int32) s40
    refine ag_bipush (q := 36) (v := -2) dX8_stray_34 rfl (by decide) ?_
    exact ag_iret dX8_stray_36 rfl rfl
  refine ag_iconst (q := 19) (v := -1) dX8_stray_18 rfl (by decide) ?_
  exact ag_iret dX8_stray_19 rfl rfl
theorem C_X8_stray {N : Nat} (hN : NT ≤ N) (a1 : Int32) (a2 : Int32) (σ : Sg) : ∀ r s', J_X8_stray a1 a2 σ = some (r, s') → AMc yX8_stray mX8_stray [.ref 141, .int a1, .int a2] N R0 σ (some (.int r), N, R0, s') := fun r s' e => AMc.of (L := [some (.ref 141), some (.int a1), some (.int a2), none, none]) (by decide) rfl (fun _ => rfl) (fun _ => Nat.le_of_ble_eq_true rfl) (Nat.le_refl _) (fun K => A_X8_stray K hN a1 a2 σ _ e)
def J_X8_nextDrive_b4  : Nat → Int32 → Int32 → Sg → Option (Int32 × Sg)
  | 0, _, _, _ => none
  | k + 1, x1, x2, σ =>
    (if ((10 : Int32) * (σ 141 3)) ≤ x2 then (if (99 : Int32) ≤ x1 then (some ((100 : Int32), σ)) else (some ((99 : Int32), σ))) else (bd2 (J_X8_canDrive x2 σ) fun r17 s17 => (if r17 = 0 then (J_X8_nextDrive_b4   k x1 (x2 + (1)) s17) else (some (x2, s17)))))
set_option maxHeartbeats 4000000 in
theorem A_X8_nextDrive_b4 (K : KT) {N : Nat} (hN : NT ≤ N)  : ∀ (k : Nat) (x1 : Int32) (x2 : Int32) (σ : Sg), AG K mX8_nextDrive N (fun a : Int32 × Sg => (some (.int a.1), N, R0, a.2)) (J_X8_nextDrive_b4   k x1 x2 σ) 4 [some (.ref 141), some (.int x1), some (.int x2)] [] σ := by
  intro k
  induction k with
  | zero => intro x1 x2 σ; exact ag_none
  | succ k ih =>
    intro x1 x2 σ
    rw [J_X8_nextDrive_b4]
    refine ag_iload_2 (q := 5) dX8_nextDrive_4 rfl ?_
    refine ag_bipush (q := 7) (v := 10) dX8_nextDrive_5 rfl (by decide) ?_
    refine ag_aload_0 (q := 8) dX8_nextDrive_7 rfl ?_
    refine ag_getI (q := 11) dX8_nextDrive_8 rfl fl8_112 (Nat.lt_of_lt_of_le (by decide : 141 < NT) hN) (congrArg Prod.fst s_141) rfl ?_
    refine ag_imul (q := 12) dX8_nextDrive_11 rfl ?_
    refine ag_icmp_ge (tgt := 31) (q := 15) dX8_nextDrive_12 rfl rfl ?_ ?_
    · refine ag_iload_1 (q := 32) dX8_nextDrive_31 rfl ?_
      refine ag_bipush (q := 34) (v := 99) dX8_nextDrive_32 rfl (by decide) ?_
      refine ag_icmp_ge (tgt := 42) (q := 37) dX8_nextDrive_34 rfl rfl ?_ ?_
      · refine ag_bipush (q := 44) (v := 100) dX8_nextDrive_42 rfl (by decide) ?_
        exact ag_iret dX8_nextDrive_44 rfl rfl
      refine ag_bipush (q := 39) (v := 99) dX8_nextDrive_37 rfl (by decide) ?_
      refine ag_goto (q := 44) dX8_nextDrive_39 rfl ?_
      exact ag_iret dX8_nextDrive_44 rfl rfl
    refine ag_aload_0 (q := 16) dX8_nextDrive_15 rfl ?_
    refine ag_iload_2 (q := 17) dX8_nextDrive_16 rfl ?_
    refine ag_callV_mI (q := 20) (av := [.int _]) (rest := []) dX8_nextDrive_17 rfl lk8_243 (C_X8_canDrive hN x2 _) (by decide) (Nat.le_of_ble_eq_true rfl) (Nat.lt_of_lt_of_le (by decide : 141 < NT) hN) (congrArg Prod.fst s_141) (by decide) (fun _ => rfl) (Nat.le_of_ble_eq_true rfl) rfl (fun r17 s17 e17 => ?_)
    refine ag_if_eq (tgt := 25) (q := 23) dX8_nextDrive_20 rfl rfl ?_ ?_
    · refine ag_iinc_2 (q := 28) (d := (1)) dX8_nextDrive_25 rfl (Nat.le_of_ble_eq_true rfl) rfl (by decide) ?_
      refine ag_goto (q := 4) dX8_nextDrive_28 rfl ?_
      exact ih x1 (x2 + (1)) s17
    refine ag_iload_2 (q := 24) dX8_nextDrive_23 rfl ?_
    exact ag_iret dX8_nextDrive_24 rfl rfl
def J_X8_nextDrive (a1 : Int32) (σ : Sg) : Option (Int32 × Sg) :=
  (J_X8_nextDrive_b4   FU a1 (a1 + (1 : Int32)) σ)
set_option maxHeartbeats 4000000 in
theorem A_X8_nextDrive (K : KT) {N : Nat} (hN : NT ≤ N) (a1 : Int32) (σ : Sg) : AG K mX8_nextDrive N (fun a : Int32 × Sg => (some (.int a.1), N, R0, a.2)) (J_X8_nextDrive a1 σ) 0 [some (.ref 141), some (.int a1), none] [] σ := by
  unfold J_X8_nextDrive
  refine ag_iload_1 (q := 1) dX8_nextDrive_0 rfl ?_
  refine ag_iconst (q := 2) (v := 1) dX8_nextDrive_1 rfl (by decide) ?_
  refine ag_iadd (q := 3) dX8_nextDrive_2 rfl ?_
  refine ag_istore_2 (q := 4) dX8_nextDrive_3 rfl (Nat.le_of_ble_eq_true rfl) rfl ?_
  exact A_X8_nextDrive_b4 K hN   FU a1 (a1 + (1 : Int32)) σ
theorem C_X8_nextDrive {N : Nat} (hN : NT ≤ N) (a1 : Int32) (σ : Sg) : ∀ r s', J_X8_nextDrive a1 σ = some (r, s') → AMc yX8_nextDrive mX8_nextDrive [.ref 141, .int a1] N R0 σ (some (.int r), N, R0, s') := fun r s' e => AMc.of (L := [some (.ref 141), some (.int a1), none]) (by decide) rfl (fun _ => rfl) (fun _ => Nat.le_of_ble_eq_true rfl) (Nat.le_refl _) (fun K => A_X8_nextDrive K hN a1 σ _ e)
def J_X8_isWatered_b4  : Nat → Int32 → Int32 → Int32 → Sg → Option Int32
  | 0, _, _, _, _ => none
  | k + 1, x1, x2, x3, σ =>
    (if (σ 141 3) ≤ x3 then (if x2 = 0 ∨ x2 = 1 then some x2 else none) else (if x2 = 0 then (if inb x3 8 = true then (if (σ 144 x3.toNatClampNeg) = x1 then (if inb x3 8 = true then (if (σ 143 x3.toNatClampNeg) = 0 then (if inb ((37 : Int32) + x3) 54 = true then (if (σ 157 ((37 : Int32) + x3).toNatClampNeg) = (σ 141 6) then (J_X8_isWatered_b4   k x1 (1 : Int32) (x3 + (1)) σ) else (J_X8_isWatered_b4   k x1 (0 : Int32) (x3 + (1)) σ)) else none) else (J_X8_isWatered_b4   k x1 (0 : Int32) (x3 + (1)) σ)) else none) else (J_X8_isWatered_b4   k x1 (0 : Int32) (x3 + (1)) σ)) else none) else (J_X8_isWatered_b4   k x1 (1 : Int32) (x3 + (1)) σ)))
set_option maxHeartbeats 4000000 in
theorem A_X8_isWatered_b4 (K : KT) {N : Nat} (hN : NT ≤ N)  : ∀ (k : Nat) (x1 : Int32) (x2 : Int32) (x3 : Int32) (σ : Sg), AG K mX8_isWatered N (fun a : Int32 => (some (.int a), N, R0, σ)) (J_X8_isWatered_b4   k x1 x2 x3 σ) 4 [some (.ref 141), some (.int x1), some (.int x2), some (.int x3)] [] σ := by
  intro k
  induction k with
  | zero => intro x1 x2 x3 σ; exact ag_none
  | succ k ih =>
    intro x1 x2 x3 σ
    rw [J_X8_isWatered_b4]
    refine ag_iload_3 (q := 5) dX8_isWatered_4 rfl ?_
    refine ag_aload_0 (q := 6) dX8_isWatered_5 rfl ?_
    refine ag_getI (q := 9) dX8_isWatered_6 rfl fl8_112 (Nat.lt_of_lt_of_le (by decide : 141 < NT) hN) (congrArg Prod.fst s_141) rfl ?_
    refine ag_icmp_ge (tgt := 63) (q := 12) dX8_isWatered_9 rfl rfl ?_ ?_
    · refine ag_iload_2 (q := 64) dX8_isWatered_63 rfl ?_
      exact ag_zret dX8_isWatered_64 rfl rfl
    refine ag_iload_2 (q := 13) dX8_isWatered_12 rfl ?_
    refine ag_if_ne (tgt := 51) (q := 16) dX8_isWatered_13 rfl rfl ?_ ?_
    · refine ag_iconst (q := 52) (v := 1) dX8_isWatered_51 rfl (by decide) ?_
      refine ag_goto (q := 56) dX8_isWatered_52 rfl ?_
      refine ag_istore_2 (q := 57) dX8_isWatered_56 rfl (Nat.le_of_ble_eq_true rfl) rfl ?_
      refine ag_iinc_3 (q := 60) (d := (1)) dX8_isWatered_57 rfl (Nat.le_of_ble_eq_true rfl) rfl (by decide) ?_
      refine ag_goto (q := 4) dX8_isWatered_60 rfl ?_
      exact ih x1 (1 : Int32) (x3 + (1)) σ
    refine ag_aload_0 (q := 17) dX8_isWatered_16 rfl ?_
    refine ag_getR (q := 20) dX8_isWatered_17 rfl fl8_16 (Nat.lt_of_lt_of_le (by decide : 141 < NT) hN) (congrArg Prod.fst s_141) rfl r_141_5 ?_
    refine ag_iload_3 (q := 21) dX8_isWatered_20 rfl ?_
    refine ag_iald (q := 22) dX8_isWatered_21 rfl (Nat.lt_of_lt_of_le (by decide : 144 < NT) hN) s_144 ?_
    refine ag_iload_1 (q := 23) dX8_isWatered_22 rfl ?_
    refine ag_icmp_ne (tgt := 55) (q := 26) dX8_isWatered_23 rfl rfl ?_ ?_
    · refine ag_iconst (q := 56) (v := 0) dX8_isWatered_55 rfl (by decide) ?_
      refine ag_istore_2 (q := 57) dX8_isWatered_56 rfl (Nat.le_of_ble_eq_true rfl) rfl ?_
      refine ag_iinc_3 (q := 60) (d := (1)) dX8_isWatered_57 rfl (Nat.le_of_ble_eq_true rfl) rfl (by decide) ?_
      refine ag_goto (q := 4) dX8_isWatered_60 rfl ?_
      exact ih x1 (0 : Int32) (x3 + (1)) σ
    refine ag_aload_0 (q := 27) dX8_isWatered_26 rfl ?_
    refine ag_getR (q := 30) dX8_isWatered_27 rfl fl8_13 (Nat.lt_of_lt_of_le (by decide : 141 < NT) hN) (congrArg Prod.fst s_141) rfl r_141_4 ?_
    refine ag_iload_3 (q := 31) dX8_isWatered_30 rfl ?_
    refine ag_iald (q := 32) dX8_isWatered_31 rfl (Nat.lt_of_lt_of_le (by decide : 143 < NT) hN) s_143 ?_
    refine ag_if_ne (tgt := 55) (q := 35) dX8_isWatered_32 rfl rfl ?_ ?_
    · refine ag_iconst (q := 56) (v := 0) dX8_isWatered_55 rfl (by decide) ?_
      refine ag_istore_2 (q := 57) dX8_isWatered_56 rfl (Nat.le_of_ble_eq_true rfl) rfl ?_
      refine ag_iinc_3 (q := 60) (d := (1)) dX8_isWatered_57 rfl (Nat.le_of_ble_eq_true rfl) rfl (by decide) ?_
      refine ag_goto (q := 4) dX8_isWatered_60 rfl ?_
      exact ih x1 (0 : Int32) (x3 + (1)) σ
    refine ag_aload_0 (q := 36) dX8_isWatered_35 rfl ?_
    refine ag_getR (q := 39) dX8_isWatered_36 rfl fl8_55 (Nat.lt_of_lt_of_le (by decide : 141 < NT) hN) (congrArg Prod.fst s_141) rfl r_141_31 ?_
    refine ag_bipush (q := 41) (v := 37) dX8_isWatered_39 rfl (by decide) ?_
    refine ag_iload_3 (q := 42) dX8_isWatered_41 rfl ?_
    refine ag_iadd (q := 43) dX8_isWatered_42 rfl ?_
    refine ag_iald (q := 44) dX8_isWatered_43 rfl (Nat.lt_of_lt_of_le (by decide : 157 < NT) hN) s_157 ?_
    refine ag_aload_0 (q := 45) dX8_isWatered_44 rfl ?_
    refine ag_getI (q := 48) dX8_isWatered_45 rfl fl8_166 (Nat.lt_of_lt_of_le (by decide : 141 < NT) hN) (congrArg Prod.fst s_141) rfl ?_
    refine ag_icmp_ne (tgt := 55) (q := 51) dX8_isWatered_48 rfl rfl ?_ ?_
    · refine ag_iconst (q := 56) (v := 0) dX8_isWatered_55 rfl (by decide) ?_
      refine ag_istore_2 (q := 57) dX8_isWatered_56 rfl (Nat.le_of_ble_eq_true rfl) rfl ?_
      refine ag_iinc_3 (q := 60) (d := (1)) dX8_isWatered_57 rfl (Nat.le_of_ble_eq_true rfl) rfl (by decide) ?_
      refine ag_goto (q := 4) dX8_isWatered_60 rfl ?_
      exact ih x1 (0 : Int32) (x3 + (1)) σ
    refine ag_iconst (q := 52) (v := 1) dX8_isWatered_51 rfl (by decide) ?_
    refine ag_goto (q := 56) dX8_isWatered_52 rfl ?_
    refine ag_istore_2 (q := 57) dX8_isWatered_56 rfl (Nat.le_of_ble_eq_true rfl) rfl ?_
    refine ag_iinc_3 (q := 60) (d := (1)) dX8_isWatered_57 rfl (Nat.le_of_ble_eq_true rfl) rfl (by decide) ?_
    refine ag_goto (q := 4) dX8_isWatered_60 rfl ?_
    exact ih x1 (1 : Int32) (x3 + (1)) σ
def J_X8_isWatered (a1 : Int32) (σ : Sg) : Option Int32 :=
  (J_X8_isWatered_b4   FU a1 (0 : Int32) (0 : Int32) σ)
set_option maxHeartbeats 4000000 in
theorem A_X8_isWatered (K : KT) {N : Nat} (hN : NT ≤ N) (a1 : Int32) (σ : Sg) : AG K mX8_isWatered N (fun a : Int32 => (some (.int a), N, R0, σ)) (J_X8_isWatered a1 σ) 0 [some (.ref 141), some (.int a1), none, none] [] σ := by
  unfold J_X8_isWatered
  refine ag_iconst (q := 1) (v := 0) dX8_isWatered_0 rfl (by decide) ?_
  refine ag_istore_2 (q := 2) dX8_isWatered_1 rfl (Nat.le_of_ble_eq_true rfl) rfl ?_
  refine ag_iconst (q := 3) (v := 0) dX8_isWatered_2 rfl (by decide) ?_
  refine ag_istore_3 (q := 4) dX8_isWatered_3 rfl (Nat.le_of_ble_eq_true rfl) rfl ?_
  exact A_X8_isWatered_b4 K hN   FU a1 (0 : Int32) (0 : Int32) σ
theorem C_X8_isWatered {N : Nat} (hN : NT ≤ N) (a1 : Int32) (σ : Sg) : ∀ r, J_X8_isWatered a1 σ = some r → AMc yX8_isWatered mX8_isWatered [.ref 141, .int a1] N R0 σ (some (.int r), N, R0, σ) := fun r e => AMc.of (L := [some (.ref 141), some (.int a1), none, none]) (by decide) rfl (fun _ => rfl) (fun _ => Nat.le_of_ble_eq_true rfl) (Nat.le_refl _) (fun K => A_X8_isWatered K hN a1 σ _ e)
def J_X8_isSummer_b128  (y24 : Int32 → Int32 → Int32 → Sg → Option (Int32 × Sg)) (x1 : Int32) (x2 : Int32) (x3 : Int32) (w0 : Int32) (σ : Sg) : Option (Int32 × Sg) :=
  (if w0 = (100 : Int32) then (y24 x1 x2 (x3 + (-1)) σ) else (bd1 (J_X8_onMeadow x1 σ) fun r145 => (if inb x3 6 = true then (bd2 (J_X8_goesBy w0 (up σ 163 x3.toNatClampNeg w0)) fun r161 s161 => (bd1 (J_X8_onMeadow x1 s161) fun r166 => (if r166 = r145 then (bd2 (J_X8_copies 162 ((54 : Int32) * (x3 + (1))) 157 (0 : Int32) (54 : Int32) s161) fun r192 s192 => (if (6 : Int32) ≤ (x3 + (1)) then (y24 x1 x2 (x3 + (1)) s192) else (if inb (x3 + (1)) 6 = true then (y24 x1 x2 (x3 + (1)) (up s192 163 (x3 + (1)).toNatClampNeg (-1 : Int32))) else none))) else (y24 x1 x2 x3 s161)))) else none)))
set_option maxHeartbeats 4000000 in
theorem A_X8_isSummer_b128 (K : KT) {N : Nat} (hN : NT ≤ N)  (y24 : Int32 → Int32 → Int32 → Sg → Option (Int32 × Sg)) (hy24 : ∀ (x1 : Int32) (x2 : Int32) (x3 : Int32) (σ : Sg), AG K mX8_isSummer N (fun a : Int32 × Sg => (some (.int a.1), N, R0, a.2)) (y24 x1 x2 x3 σ) 24 [some (.ref 141), some (.int x1), some (.int x2), some (.int x3), none, none, none] [] σ) (x1 : Int32) (x2 : Int32) (x3 : Int32) (w0 : Int32) (σ : Sg) : AG K mX8_isSummer N (fun a : Int32 × Sg => (some (.int a.1), N, R0, a.2)) (J_X8_isSummer_b128  y24 x1 x2 x3 w0 σ) 128 [some (.ref 141), some (.int x1), some (.int x2), some (.int x3), none, none, none] [.int w0] σ := by
  unfold J_X8_isSummer_b128
  refine ag_istore_5 (q := 130) dX8_isSummer_128 rfl (Nat.le_of_ble_eq_true rfl) rfl ?_
  refine ag_iload_5 (q := 132) dX8_isSummer_130 rfl ?_
  refine ag_bipush (q := 134) (v := 100) dX8_isSummer_132 rfl (by decide) ?_
  refine ag_icmp_ne (tgt := 143) (q := 137) dX8_isSummer_134 rfl rfl ?_ ?_
  · refine ag_aload_0 (q := 144) dX8_isSummer_143 rfl ?_
    refine ag_iload_1 (q := 145) dX8_isSummer_144 rfl ?_
    refine ag_callV_pI (q := 148) (av := [.int _]) (rest := []) dX8_isSummer_145 rfl lk8_267 (C_X8_onMeadow hN x1 _) (by decide) (Nat.le_of_ble_eq_true rfl) (Nat.lt_of_lt_of_le (by decide : 141 < NT) hN) (congrArg Prod.fst s_141) (by decide) (fun _ => rfl) (Nat.le_of_ble_eq_true rfl) rfl (fun r145 e145 => ?_)
    refine ag_istore_6 (q := 150) dX8_isSummer_148 rfl (Nat.le_of_ble_eq_true rfl) rfl ?_
    refine ag_aload_0 (q := 151) dX8_isSummer_150 rfl ?_
    refine ag_getR (q := 154) dX8_isSummer_151 rfl fl8_73 (Nat.lt_of_lt_of_le (by decide : 141 < NT) hN) (congrArg Prod.fst s_141) rfl r_141_39 ?_
    refine ag_iload_3 (q := 155) dX8_isSummer_154 rfl ?_
    refine ag_iload_5 (q := 157) dX8_isSummer_155 rfl ?_
    refine ag_iast (q := 158) dX8_isSummer_157 rfl (Nat.lt_of_lt_of_le (by decide : 163 < NT) hN) s_163 ?_
    refine ag_aload_0 (q := 159) dX8_isSummer_158 rfl ?_
    refine ag_iload_5 (q := 161) dX8_isSummer_159 rfl ?_
    refine ag_callV_mU (q := 164) (av := [.int _]) (rest := []) dX8_isSummer_161 rfl lk8_240 (C_X8_goesBy hN w0 _) (by decide) (Nat.le_of_ble_eq_true rfl) (Nat.lt_of_lt_of_le (by decide : 141 < NT) hN) (congrArg Prod.fst s_141) (by decide) (fun _ => rfl) (Nat.le_of_ble_eq_true rfl) rfl (fun r161 s161 e161 => ?_)
    refine ag_aload_0 (q := 165) dX8_isSummer_164 rfl ?_
    refine ag_iload_1 (q := 166) dX8_isSummer_165 rfl ?_
    refine ag_callV_pI (q := 169) (av := [.int _]) (rest := []) dX8_isSummer_166 rfl lk8_267 (C_X8_onMeadow hN x1 _) (by decide) (Nat.le_of_ble_eq_true rfl) (Nat.lt_of_lt_of_le (by decide : 141 < NT) hN) (congrArg Prod.fst s_141) (by decide) (fun _ => rfl) (Nat.le_of_ble_eq_true rfl) rfl (fun r166 e166 => ?_)
    refine ag_iload_6 (q := 171) dX8_isSummer_169 rfl ?_
    refine ag_icmp_ne (tgt := 208) (q := 174) dX8_isSummer_171 rfl rfl ?_ ?_
    · refine ag_goto (q := 24) dX8_isSummer_208 rfl ?_
      refine ag_kill_5 ?_
      refine ag_kill_6 ?_
      exact hy24 x1 x2 x3 s161
    refine ag_iinc_3 (q := 177) (d := (1)) dX8_isSummer_174 rfl (Nat.le_of_ble_eq_true rfl) rfl (by decide) ?_
    refine ag_aload_0 (q := 178) dX8_isSummer_177 rfl ?_
    refine ag_getR (q := 181) dX8_isSummer_178 rfl fl8_70 (Nat.lt_of_lt_of_le (by decide : 141 < NT) hN) (congrArg Prod.fst s_141) rfl r_141_38 ?_
    refine ag_bipush (q := 183) (v := 54) dX8_isSummer_181 rfl (by decide) ?_
    refine ag_iload_3 (q := 184) dX8_isSummer_183 rfl ?_
    refine ag_imul (q := 185) dX8_isSummer_184 rfl ?_
    refine ag_aload_0 (q := 186) dX8_isSummer_185 rfl ?_
    refine ag_getR (q := 189) dX8_isSummer_186 rfl fl8_55 (Nat.lt_of_lt_of_le (by decide : 141 < NT) hN) (congrArg Prod.fst s_141) rfl r_141_31 ?_
    refine ag_iconst (q := 190) (v := 0) dX8_isSummer_189 rfl (by decide) ?_
    refine ag_bipush (q := 192) (v := 54) dX8_isSummer_190 rfl (by decide) ?_
    refine ag_callS_mU (q := 195) (av := [.ref _, .int _, .ref _, .int _, .int _]) (rest := []) dX8_isSummer_192 rfl lk8_162 (C_X8_copies hN 162 (by decide) ((54 : Int32) * (x3 + (1))) 157 (by decide) (0 : Int32) (54 : Int32) _) (by decide) (Nat.le_of_ble_eq_true rfl) (fun _ => rfl) (Nat.le_of_ble_eq_true rfl) rfl (fun r192 s192 e192 => ?_)
    refine ag_iload_3 (q := 196) dX8_isSummer_195 rfl ?_
    refine ag_bipush (q := 198) (v := 6) dX8_isSummer_196 rfl (by decide) ?_
    refine ag_icmp_ge (tgt := 208) (q := 201) dX8_isSummer_198 rfl rfl ?_ ?_
    · refine ag_goto (q := 24) dX8_isSummer_208 rfl ?_
      refine ag_kill_5 ?_
      refine ag_kill_6 ?_
      exact hy24 x1 x2 (x3 + (1)) s192
    refine ag_aload_0 (q := 202) dX8_isSummer_201 rfl ?_
    refine ag_getR (q := 205) dX8_isSummer_202 rfl fl8_73 (Nat.lt_of_lt_of_le (by decide : 141 < NT) hN) (congrArg Prod.fst s_141) rfl r_141_39 ?_
    refine ag_iload_3 (q := 206) dX8_isSummer_205 rfl ?_
    refine ag_iconst (q := 207) (v := -1) dX8_isSummer_206 rfl (by decide) ?_
    refine ag_iast (q := 208) dX8_isSummer_207 rfl (Nat.lt_of_lt_of_le (by decide : 163 < NT) hN) s_163 ?_
    refine ag_goto (q := 24) dX8_isSummer_208 rfl ?_
    refine ag_kill_5 ?_
    refine ag_kill_6 ?_
    exact hy24 x1 x2 (x3 + (1)) (up s192 163 (x3 + (1)).toNatClampNeg (-1 : Int32))
  refine ag_iinc_3 (q := 140) (d := (-1)) dX8_isSummer_137 rfl (Nat.le_of_ble_eq_true rfl) rfl (by decide) ?_
  refine ag_goto (q := 208) dX8_isSummer_140 rfl ?_
  refine ag_goto (q := 24) dX8_isSummer_208 rfl ?_
  refine ag_kill_5 ?_
  exact hy24 x1 x2 (x3 + (-1)) σ
def J_X8_isSummer_b78  (y24 : Int32 → Int32 → Int32 → Sg → Option (Int32 × Sg)) (x1 : Int32) (x2 : Int32) (x3 : Int32) (w0 : Int32) (σ : Sg) : Option (Int32 × Sg) :=
  (if w0 = 0 then (if inb x3 6 = true then (if (σ 163 x3.toNatClampNeg) = (99 : Int32) then (J_X8_isSummer_b128  y24 x1 x2 x3 (100 : Int32) σ) else (if (rmI (σ 157 0) (2 : Int32)) = x1 then (if inb x3 6 = true then (bd2 (J_X8_nextDrive (σ 163 x3.toNatClampNeg) σ) fun r120 s120 => (J_X8_isSummer_b128  y24 x1 x2 x3 r120 s120)) else none) else (J_X8_isSummer_b128  y24 x1 x2 x3 (99 : Int32) σ))) else none) else (J_X8_isSummer_b128  y24 x1 x2 x3 (100 : Int32) σ))
set_option maxHeartbeats 4000000 in
theorem A_X8_isSummer_b78 (K : KT) {N : Nat} (hN : NT ≤ N)  (y24 : Int32 → Int32 → Int32 → Sg → Option (Int32 × Sg)) (hy24 : ∀ (x1 : Int32) (x2 : Int32) (x3 : Int32) (σ : Sg), AG K mX8_isSummer N (fun a : Int32 × Sg => (some (.int a.1), N, R0, a.2)) (y24 x1 x2 x3 σ) 24 [some (.ref 141), some (.int x1), some (.int x2), some (.int x3), none, none, none] [] σ) (x1 : Int32) (x2 : Int32) (x3 : Int32) (w0 : Int32) (σ : Sg) : AG K mX8_isSummer N (fun a : Int32 × Sg => (some (.int a.1), N, R0, a.2)) (J_X8_isSummer_b78  y24 x1 x2 x3 w0 σ) 78 [some (.ref 141), some (.int x1), some (.int x2), some (.int x3), none, none, none] [.int w0] σ := by
  unfold J_X8_isSummer_b78
  refine ag_istore_4 (q := 80) dX8_isSummer_78 rfl (Nat.le_of_ble_eq_true rfl) rfl ?_
  refine ag_iload_4 (q := 82) dX8_isSummer_80 rfl ?_
  refine ag_if_ne (tgt := 96) (q := 85) dX8_isSummer_82 rfl rfl ?_ ?_
  · refine ag_bipush (q := 98) (v := 100) dX8_isSummer_96 rfl (by decide) ?_
    refine ag_goto (q := 128) dX8_isSummer_98 rfl ?_
    refine ag_kill_4 ?_
    exact A_X8_isSummer_b128 K hN  y24 hy24 x1 x2 x3 (100 : Int32) σ
  refine ag_aload_0 (q := 86) dX8_isSummer_85 rfl ?_
  refine ag_getR (q := 89) dX8_isSummer_86 rfl fl8_73 (Nat.lt_of_lt_of_le (by decide : 141 < NT) hN) (congrArg Prod.fst s_141) rfl r_141_39 ?_
  refine ag_iload_3 (q := 90) dX8_isSummer_89 rfl ?_
  refine ag_iald (q := 91) dX8_isSummer_90 rfl (Nat.lt_of_lt_of_le (by decide : 163 < NT) hN) s_163 ?_
  refine ag_bipush (q := 93) (v := 99) dX8_isSummer_91 rfl (by decide) ?_
  refine ag_icmp_ne (tgt := 101) (q := 96) dX8_isSummer_93 rfl rfl ?_ ?_
  · refine ag_aload_0 (q := 102) dX8_isSummer_101 rfl ?_
    refine ag_getR (q := 105) dX8_isSummer_102 rfl fl8_55 (Nat.lt_of_lt_of_le (by decide : 141 < NT) hN) (congrArg Prod.fst s_141) rfl r_141_31 ?_
    refine ag_iconst (q := 106) (v := 0) dX8_isSummer_105 rfl (by decide) ?_
    refine ag_ialdK (q := 107) (k := 0) dX8_isSummer_106 rfl (Nat.lt_of_lt_of_le (by decide : 157 < NT) hN) s_157 (by decide) (by decide) ?_
    refine ag_iconst (q := 108) (v := 2) dX8_isSummer_107 rfl (by decide) ?_
    refine ag_iremK (q := 109) dX8_isSummer_108 rfl (by decide) ?_
    refine ag_iload_1 (q := 110) dX8_isSummer_109 rfl ?_
    refine ag_icmp_ne (tgt := 126) (q := 113) dX8_isSummer_110 rfl rfl ?_ ?_
    · refine ag_bipush (q := 128) (v := 99) dX8_isSummer_126 rfl (by decide) ?_
      refine ag_kill_4 ?_
      exact A_X8_isSummer_b128 K hN  y24 hy24 x1 x2 x3 (99 : Int32) σ
    refine ag_aload_0 (q := 114) dX8_isSummer_113 rfl ?_
    refine ag_aload_0 (q := 115) dX8_isSummer_114 rfl ?_
    refine ag_getR (q := 118) dX8_isSummer_115 rfl fl8_73 (Nat.lt_of_lt_of_le (by decide : 141 < NT) hN) (congrArg Prod.fst s_141) rfl r_141_39 ?_
    refine ag_iload_3 (q := 119) dX8_isSummer_118 rfl ?_
    refine ag_iald (q := 120) dX8_isSummer_119 rfl (Nat.lt_of_lt_of_le (by decide : 163 < NT) hN) s_163 ?_
    refine ag_callV_mI (q := 123) (av := [.int _]) (rest := []) dX8_isSummer_120 rfl lk8_264 (C_X8_nextDrive hN (σ 163 x3.toNatClampNeg) _) (by decide) (Nat.le_of_ble_eq_true rfl) (Nat.lt_of_lt_of_le (by decide : 141 < NT) hN) (congrArg Prod.fst s_141) (by decide) (fun _ => rfl) (Nat.le_of_ble_eq_true rfl) rfl (fun r120 s120 e120 => ?_)
    refine ag_goto (q := 128) dX8_isSummer_123 rfl ?_
    refine ag_kill_4 ?_
    exact A_X8_isSummer_b128 K hN  y24 hy24 x1 x2 x3 r120 s120
  refine ag_bipush (q := 98) (v := 100) dX8_isSummer_96 rfl (by decide) ?_
  refine ag_goto (q := 128) dX8_isSummer_98 rfl ?_
  refine ag_kill_4 ?_
  exact A_X8_isSummer_b128 K hN  y24 hy24 x1 x2 x3 (100 : Int32) σ
def J_X8_isSummer_b24  : Nat → Int32 → Int32 → Int32 → Sg → Option (Int32 × Sg)
  | 0, _, _, _, _ => none
  | k + 1, x1, x2, x3, σ =>
    (if x3 < 0 then (some ((0 : Int32), σ)) else (bd2 (J_X8_copies 157 (0 : Int32) 162 ((54 : Int32) * x3) (54 : Int32) σ) fun r43 s43 => (if x3 = x2 then (bd1 (J_X8_isWatered x1 s43) fun r53 => (if r53 = 0 then (if x3 = x2 then (J_X8_isSummer_b78  (fun x1 x2 x3 σ => J_X8_isSummer_b24   k x1 x2 x3 σ) x1 x2 x3 (1 : Int32) s43) else (bd1 (J_X8_lost  s43) fun r67 => (if r67 = 0 then (J_X8_isSummer_b78  (fun x1 x2 x3 σ => J_X8_isSummer_b24   k x1 x2 x3 σ) x1 x2 x3 (0 : Int32) s43) else (J_X8_isSummer_b78  (fun x1 x2 x3 σ => J_X8_isSummer_b24   k x1 x2 x3 σ) x1 x2 x3 (1 : Int32) s43)))) else (some ((1 : Int32), s43)))) else (if x3 = x2 then (J_X8_isSummer_b78  (fun x1 x2 x3 σ => J_X8_isSummer_b24   k x1 x2 x3 σ) x1 x2 x3 (1 : Int32) s43) else (bd1 (J_X8_lost  s43) fun r67 => (if r67 = 0 then (J_X8_isSummer_b78  (fun x1 x2 x3 σ => J_X8_isSummer_b24   k x1 x2 x3 σ) x1 x2 x3 (0 : Int32) s43) else (J_X8_isSummer_b78  (fun x1 x2 x3 σ => J_X8_isSummer_b24   k x1 x2 x3 σ) x1 x2 x3 (1 : Int32) s43)))))))
set_option maxHeartbeats 4000000 in
theorem A_X8_isSummer_b24 (K : KT) {N : Nat} (hN : NT ≤ N)  : ∀ (k : Nat) (x1 : Int32) (x2 : Int32) (x3 : Int32) (σ : Sg), AG K mX8_isSummer N (fun a : Int32 × Sg => (some (.int a.1), N, R0, a.2)) (J_X8_isSummer_b24   k x1 x2 x3 σ) 24 [some (.ref 141), some (.int x1), some (.int x2), some (.int x3), none, none, none] [] σ := by
  intro k
  induction k with
  | zero => intro x1 x2 x3 σ; exact ag_none
  | succ k ih =>
    intro x1 x2 x3 σ
    rw [J_X8_isSummer_b24]
    refine ag_iload_3 (q := 25) dX8_isSummer_24 rfl ?_
    refine ag_if_lt (tgt := 211) (q := 28) dX8_isSummer_25 rfl rfl ?_ ?_
    · refine ag_iconst (q := 212) (v := 0) dX8_isSummer_211 rfl (by decide) ?_
      exact ag_zretK dX8_isSummer_212 rfl (by decide) rfl
    refine ag_aload_0 (q := 29) dX8_isSummer_28 rfl ?_
    refine ag_getR (q := 32) dX8_isSummer_29 rfl fl8_55 (Nat.lt_of_lt_of_le (by decide : 141 < NT) hN) (congrArg Prod.fst s_141) rfl r_141_31 ?_
    refine ag_iconst (q := 33) (v := 0) dX8_isSummer_32 rfl (by decide) ?_
    refine ag_aload_0 (q := 34) dX8_isSummer_33 rfl ?_
    refine ag_getR (q := 37) dX8_isSummer_34 rfl fl8_70 (Nat.lt_of_lt_of_le (by decide : 141 < NT) hN) (congrArg Prod.fst s_141) rfl r_141_38 ?_
    refine ag_bipush (q := 39) (v := 54) dX8_isSummer_37 rfl (by decide) ?_
    refine ag_iload_3 (q := 40) dX8_isSummer_39 rfl ?_
    refine ag_imul (q := 41) dX8_isSummer_40 rfl ?_
    refine ag_bipush (q := 43) (v := 54) dX8_isSummer_41 rfl (by decide) ?_
    refine ag_callS_mU (q := 46) (av := [.ref _, .int _, .ref _, .int _, .int _]) (rest := []) dX8_isSummer_43 rfl lk8_162 (C_X8_copies hN 157 (by decide) (0 : Int32) 162 (by decide) ((54 : Int32) * x3) (54 : Int32) _) (by decide) (Nat.le_of_ble_eq_true rfl) (fun _ => rfl) (Nat.le_of_ble_eq_true rfl) rfl (fun r43 s43 e43 => ?_)
    refine ag_iload_3 (q := 47) dX8_isSummer_46 rfl ?_
    refine ag_iload_2 (q := 48) dX8_isSummer_47 rfl ?_
    refine ag_icmp_ne (tgt := 61) (q := 51) dX8_isSummer_48 rfl rfl ?_ ?_
    · refine ag_iload_3 (q := 62) dX8_isSummer_61 rfl ?_
      refine ag_iload_2 (q := 63) dX8_isSummer_62 rfl ?_
      refine ag_icmp_eq (tgt := 73) (q := 66) dX8_isSummer_63 rfl rfl ?_ ?_
      · refine ag_iconst (q := 74) (v := 1) dX8_isSummer_73 rfl (by decide) ?_
        refine ag_goto (q := 78) dX8_isSummer_74 rfl ?_
        exact A_X8_isSummer_b78 K hN  (fun x1 x2 x3 σ => J_X8_isSummer_b24   k x1 x2 x3 σ) (fun x1 x2 x3 σ => ih x1 x2 x3 σ) x1 x2 x3 (1 : Int32) s43
      refine ag_aload_0 (q := 67) dX8_isSummer_66 rfl ?_
      refine ag_callV_pI (q := 70) (av := []) (rest := []) dX8_isSummer_67 rfl lk8_222 (C_X8_lost hN  _) (by decide) (Nat.le_of_ble_eq_true rfl) (Nat.lt_of_lt_of_le (by decide : 141 < NT) hN) (congrArg Prod.fst s_141) (by decide) (fun _ => rfl) (Nat.le_of_ble_eq_true rfl) rfl (fun r67 e67 => ?_)
      refine ag_if_eq (tgt := 77) (q := 73) dX8_isSummer_70 rfl rfl ?_ ?_
      · refine ag_iconst (q := 78) (v := 0) dX8_isSummer_77 rfl (by decide) ?_
        exact A_X8_isSummer_b78 K hN  (fun x1 x2 x3 σ => J_X8_isSummer_b24   k x1 x2 x3 σ) (fun x1 x2 x3 σ => ih x1 x2 x3 σ) x1 x2 x3 (0 : Int32) s43
      refine ag_iconst (q := 74) (v := 1) dX8_isSummer_73 rfl (by decide) ?_
      refine ag_goto (q := 78) dX8_isSummer_74 rfl ?_
      exact A_X8_isSummer_b78 K hN  (fun x1 x2 x3 σ => J_X8_isSummer_b24   k x1 x2 x3 σ) (fun x1 x2 x3 σ => ih x1 x2 x3 σ) x1 x2 x3 (1 : Int32) s43
    refine ag_aload_0 (q := 52) dX8_isSummer_51 rfl ?_
    refine ag_iload_1 (q := 53) dX8_isSummer_52 rfl ?_
    refine ag_callV_pI (q := 56) (av := [.int _]) (rest := []) dX8_isSummer_53 rfl lk8_261 (C_X8_isWatered hN x1 _) (by decide) (Nat.le_of_ble_eq_true rfl) (Nat.lt_of_lt_of_le (by decide : 141 < NT) hN) (congrArg Prod.fst s_141) (by decide) (fun _ => rfl) (Nat.le_of_ble_eq_true rfl) rfl (fun r53 e53 => ?_)
    refine ag_if_eq (tgt := 61) (q := 59) dX8_isSummer_56 rfl rfl ?_ ?_
    · refine ag_iload_3 (q := 62) dX8_isSummer_61 rfl ?_
      refine ag_iload_2 (q := 63) dX8_isSummer_62 rfl ?_
      refine ag_icmp_eq (tgt := 73) (q := 66) dX8_isSummer_63 rfl rfl ?_ ?_
      · refine ag_iconst (q := 74) (v := 1) dX8_isSummer_73 rfl (by decide) ?_
        refine ag_goto (q := 78) dX8_isSummer_74 rfl ?_
        exact A_X8_isSummer_b78 K hN  (fun x1 x2 x3 σ => J_X8_isSummer_b24   k x1 x2 x3 σ) (fun x1 x2 x3 σ => ih x1 x2 x3 σ) x1 x2 x3 (1 : Int32) s43
      refine ag_aload_0 (q := 67) dX8_isSummer_66 rfl ?_
      refine ag_callV_pI (q := 70) (av := []) (rest := []) dX8_isSummer_67 rfl lk8_222 (C_X8_lost hN  _) (by decide) (Nat.le_of_ble_eq_true rfl) (Nat.lt_of_lt_of_le (by decide : 141 < NT) hN) (congrArg Prod.fst s_141) (by decide) (fun _ => rfl) (Nat.le_of_ble_eq_true rfl) rfl (fun r67 e67 => ?_)
      refine ag_if_eq (tgt := 77) (q := 73) dX8_isSummer_70 rfl rfl ?_ ?_
      · refine ag_iconst (q := 78) (v := 0) dX8_isSummer_77 rfl (by decide) ?_
        exact A_X8_isSummer_b78 K hN  (fun x1 x2 x3 σ => J_X8_isSummer_b24   k x1 x2 x3 σ) (fun x1 x2 x3 σ => ih x1 x2 x3 σ) x1 x2 x3 (0 : Int32) s43
      refine ag_iconst (q := 74) (v := 1) dX8_isSummer_73 rfl (by decide) ?_
      refine ag_goto (q := 78) dX8_isSummer_74 rfl ?_
      exact A_X8_isSummer_b78 K hN  (fun x1 x2 x3 σ => J_X8_isSummer_b24   k x1 x2 x3 σ) (fun x1 x2 x3 σ => ih x1 x2 x3 σ) x1 x2 x3 (1 : Int32) s43
    refine ag_iconst (q := 60) (v := 1) dX8_isSummer_59 rfl (by decide) ?_
    exact ag_zretK dX8_isSummer_60 rfl (by decide) rfl
def J_X8_isSummer (a1 : Int32) (a2 : Int32) (σ : Sg) : Option (Int32 × Sg) :=
  (bd2 (J_X8_copies 162 (0 : Int32) 146 (0 : Int32) (54 : Int32) σ) fun r14 s14 => (J_X8_isSummer_b24   FU a1 a2 (0 : Int32) (up s14 163 0 (-1 : Int32))))
set_option maxHeartbeats 4000000 in
theorem A_X8_isSummer (K : KT) {N : Nat} (hN : NT ≤ N) (a1 : Int32) (a2 : Int32) (σ : Sg) : AG K mX8_isSummer N (fun a : Int32 × Sg => (some (.int a.1), N, R0, a.2)) (J_X8_isSummer a1 a2 σ) 0 [some (.ref 141), some (.int a1), some (.int a2), none, none, none, none] [] σ := by
  unfold J_X8_isSummer
  refine ag_iconst (q := 1) (v := 0) dX8_isSummer_0 rfl (by decide) ?_
  refine ag_istore_3 (q := 2) dX8_isSummer_1 rfl (Nat.le_of_ble_eq_true rfl) rfl ?_
  refine ag_aload_0 (q := 3) dX8_isSummer_2 rfl ?_
  refine ag_getR (q := 6) dX8_isSummer_3 rfl fl8_70 (Nat.lt_of_lt_of_le (by decide : 141 < NT) hN) (congrArg Prod.fst s_141) rfl r_141_38 ?_
  refine ag_iconst (q := 7) (v := 0) dX8_isSummer_6 rfl (by decide) ?_
  refine ag_aload_0 (q := 8) dX8_isSummer_7 rfl ?_
  refine ag_getR (q := 11) dX8_isSummer_8 rfl fl8_22 (Nat.lt_of_lt_of_le (by decide : 141 < NT) hN) (congrArg Prod.fst s_141) rfl r_141_10 ?_
  refine ag_iconst (q := 12) (v := 0) dX8_isSummer_11 rfl (by decide) ?_
  refine ag_bipush (q := 14) (v := 54) dX8_isSummer_12 rfl (by decide) ?_
  refine ag_callS_mU (q := 17) (av := [.ref _, .int _, .ref _, .int _, .int _]) (rest := []) dX8_isSummer_14 rfl lk8_162 (C_X8_copies hN 162 (by decide) (0 : Int32) 146 (by decide) (0 : Int32) (54 : Int32) _) (by decide) (Nat.le_of_ble_eq_true rfl) (fun _ => rfl) (Nat.le_of_ble_eq_true rfl) rfl (fun r14 s14 e14 => ?_)
  refine ag_aload_0 (q := 18) dX8_isSummer_17 rfl ?_
  refine ag_getR (q := 21) dX8_isSummer_18 rfl fl8_73 (Nat.lt_of_lt_of_le (by decide : 141 < NT) hN) (congrArg Prod.fst s_141) rfl r_141_39 ?_
  refine ag_iconst (q := 22) (v := 0) dX8_isSummer_21 rfl (by decide) ?_
  refine ag_iconst (q := 23) (v := -1) dX8_isSummer_22 rfl (by decide) ?_
  refine ag_iastK (q := 24) (k := 0) dX8_isSummer_23 rfl (Nat.lt_of_lt_of_le (by decide : 163 < NT) hN) s_163 (by decide) (by decide) ?_
  exact A_X8_isSummer_b24 K hN   FU a1 a2 (0 : Int32) (up s14 163 0 (-1 : Int32))
theorem C_X8_isSummer {N : Nat} (hN : NT ≤ N) (a1 : Int32) (a2 : Int32) (σ : Sg) : ∀ r s', J_X8_isSummer a1 a2 σ = some (r, s') → AMc yX8_isSummer mX8_isSummer [.ref 141, .int a1, .int a2] N R0 σ (some (.int r), N, R0, s') := fun r s' e => AMc.of (L := [some (.ref 141), some (.int a1), some (.int a2), none, none, none, none]) (by decide) rfl (fun _ => rfl) (fun _ => Nat.le_of_ble_eq_true rfl) (Nat.le_refl _) (fun K => A_X8_isSummer K hN a1 a2 σ _ e)
