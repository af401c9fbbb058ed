def J_X8_starves_b33  : Nat → Int32 → Int32 → Sg → Option (Int32 × Sg)
  | 0, _, _, _ => none
  | k + 1, x1, x2, σ =>
    (if (60 : Int32) < x2 then (some ((-4 : Int32), σ)) else (bd2 (J_X8_goesBy (99 : Int32) σ) fun r42 s42 => (if inb ((37 : Int32) + x1) 54 = true then (if (s42 157 ((37 : Int32) + x1).toNatClampNeg) = (36 : Int32) then (some (x2, s42)) else (J_X8_starves_b33   k x1 (x2 + (1)) s42)) else none)))
set_option maxHeartbeats 4000000 in
theorem A_X8_starves_b33 (K : KT)  : ∀ (k : Nat) (x1 : Int32) (x2 : Int32) (σ : Sg), AG K mX8_starves (fun a : Int32 × Sg => (some (.int a.1), NT, R0, a.2)) (J_X8_starves_b33   k x1 x2 σ) 33 [some (.ref 141), some (.int x1), some (.int x2)] [] σ := by
  intro k
  induction k with
  | zero => intro x1 x2 σ; exact ag_none
  | succ k ih =>
    intro x1 x2 σ
    rw [J_X8_starves_b33]
    refine ag_iload_2 (q := 34) dX8_starves_33 rfl ?_
    refine ag_bipush (q := 36) (v := 60) dX8_starves_34 rfl (by decide) ?_
    refine ag_icmp_gt (tgt := 67) (q := 39) dX8_starves_36 rfl rfl ?_ ?_
    · refine ag_bipush (q := 69) (v := -4) dX8_starves_67 rfl (by decide) ?_
      exact ag_iret dX8_starves_69 rfl rfl
    refine ag_aload_0 (q := 40) dX8_starves_39 rfl ?_
    refine ag_bipush (q := 42) (v := 99) dX8_starves_40 rfl (by decide) ?_
    refine ag_callV_mU (q := 45) (av := [.int _]) (rest := []) dX8_starves_42 rfl lk8_240 (C_X8_goesBy (99 : Int32) _) (by decide) (Nat.le_of_ble_eq_true rfl) (by decide) (congrArg Prod.fst s_141) (by decide) (fun _ => rfl) (Nat.le_of_ble_eq_true rfl) rfl (fun r42 s42 e42 => ?_)
    refine ag_aload_0 (q := 46) dX8_starves_45 rfl ?_
    refine ag_getR (q := 49) dX8_starves_46 rfl fl8_55 (by decide) (congrArg Prod.fst s_141) rfl r_141_31 ?_
    refine ag_bipush (q := 51) (v := 37) dX8_starves_49 rfl (by decide) ?_
    refine ag_iload_1 (q := 52) dX8_starves_51 rfl ?_
    refine ag_iadd (q := 53) dX8_starves_52 rfl ?_
    refine ag_iald (q := 54) dX8_starves_53 rfl (by decide) s_157 ?_
    refine ag_bipush (q := 56) (v := 36) dX8_starves_54 rfl (by decide) ?_
    refine ag_icmp_ne (tgt := 61) (q := 59) dX8_starves_56 rfl rfl ?_ ?_
    · refine ag_iinc_2 (q := 64) (d := (1)) dX8_starves_61 rfl (Nat.le_of_ble_eq_true rfl) rfl (by decide) ?_
      refine ag_goto (q := 33) dX8_starves_64 rfl ?_
      exact ih x1 (x2 + (1)) s42
    refine ag_iload_2 (q := 60) dX8_starves_59 rfl ?_
    exact ag_iret dX8_starves_60 rfl rfl
def J_X8_starves (a1 : Int32) (σ : Sg) : Option (Int32 × Sg) :=
  (bd1 (J_X8_isBeast a1 σ) fun r2 => (if r2 = 0 then (some ((-1 : Int32), σ)) else (if inb ((37 : Int32) + a1) 54 = true then (if (σ 146 ((37 : Int32) + a1).toNatClampNeg) = (36 : Int32) then (some ((-2 : Int32), σ)) else (bd2 (J_X8_asItIs  σ) fun r28 s28 => (J_X8_starves_b33   FU a1 (1 : Int32) s28))) else none)))
set_option maxHeartbeats 4000000 in
theorem A_X8_starves (K : KT) (a1 : Int32) (σ : Sg) : AG K mX8_starves (fun a : Int32 × Sg => (some (.int a.1), NT, R0, a.2)) (J_X8_starves a1 σ) 0 [some (.ref 141), some (.int a1), none] [] σ := by
  unfold J_X8_starves
  refine ag_aload_0 (q := 1) dX8_starves_0 rfl ?_
  refine ag_iload_1 (q := 2) dX8_starves_1 rfl ?_
  refine ag_callV_pI (q := 5) (av := [.int _]) (rest := []) dX8_starves_2 rfl lk8_231 (C_X8_isBeast a1 _) (by decide) (Nat.le_of_ble_eq_true rfl) (by decide) (congrArg Prod.fst s_141) (by decide) (fun _ => rfl) (Nat.le_of_ble_eq_true rfl) rfl (fun r2 e2 => ?_)
  refine ag_if_ne (tgt := 10) (q := 8) dX8_starves_5 rfl rfl ?_ ?_
  · refine ag_aload_0 (q := 11) dX8_starves_10 rfl ?_
    refine ag_getR (q := 14) dX8_starves_11 rfl fl8_22 (by decide) (congrArg Prod.fst s_141) rfl r_141_10 ?_
    refine ag_bipush (q := 16) (v := 37) dX8_starves_14 rfl (by decide) ?_
    refine ag_iload_1 (q := 17) dX8_starves_16 rfl ?_
    refine ag_iadd (q := 18) dX8_starves_17 rfl ?_
    refine ag_iald (q := 19) dX8_starves_18 rfl (by decide) s_146 ?_
    refine ag_bipush (q := 21) (v := 36) dX8_starves_19 rfl (by decide) ?_
    refine ag_icmp_ne (tgt := 27) (q := 24) dX8_starves_21 rfl rfl ?_ ?_
    · refine ag_aload_0 (q := 28) dX8_starves_27 rfl ?_
      refine ag_callV_mU (q := 31) (av := []) (rest := []) dX8_starves_28 rfl lk8_228 (C_X8_asItIs  _) (by decide) (Nat.le_of_ble_eq_true rfl) (by decide) (congrArg Prod.fst s_141) (by decide) (fun _ => rfl) (Nat.le_of_ble_eq_true rfl) rfl (fun r28 s28 e28 => ?_)
      refine ag_iconst (q := 32) (v := 1) dX8_starves_31 rfl (by decide) ?_
      refine ag_istore_2 (q := 33) dX8_starves_32 rfl (Nat.le_of_ble_eq_true rfl) rfl ?_
      exact A_X8_starves_b33 K   FU a1 (1 : Int32) s28
    refine ag_bipush (q := 26) (v := -2) dX8_starves_24 rfl (by decide) ?_
    exact ag_iret dX8_starves_26 rfl rfl
  refine ag_iconst (q := 9) (v := -1) dX8_starves_8 rfl (by decide) ?_
  exact ag_iret dX8_starves_9 rfl rfl
theorem C_X8_starves (a1 : Int32) (σ : Sg) : ∀ r s', J_X8_starves a1 σ = some (r, s') → AMc yX8_starves mX8_starves [.ref 141, .int a1] NT R0 σ (some (.int r), NT, R0, s') := fun r s' e => AMc.of (L := [some (.ref 141), some (.int a1), none]) (by decide) rfl (fun _ => rfl) (fun _ => Nat.le_of_ble_eq_true rfl) (Nat.le_refl _) (fun K => A_X8_starves K a1 σ _ e)
def J_X8_isOtherwise_b81  : Nat → Int32 → Int32 → Int32 → Sg → Option (Int32 × Sg)
  | 0, _, _, _, _ => none
  | k + 1, x3, x4, x5, σ =>
    (if (σ 141 11) ≤ x5 then (if inb ((37 : Int32) + x3) 54 = true then (if (σ 157 ((37 : Int32) + x3).toNatClampNeg) = x4 then (some ((1 : Int32), σ)) else (some ((0 : Int32), σ))) else none) else (if inb x5 8 = true then (if (σ 148 x5.toNatClampNeg) = (99 : Int32) then (bd2 (J_X8_goesBy (99 : Int32) σ) fun r129 s129 => (J_X8_isOtherwise_b81   k x3 x4 (x5 + (1)) s129)) else (if inb x5 8 = true then (bd2 (J_X8_canDrive (σ 148 x5.toNatClampNeg) σ) fun r111 s111 => (if r111 = 0 then (bd2 (J_X8_goesBy (99 : Int32) s111) fun r129 s129 => (J_X8_isOtherwise_b81   k x3 x4 (x5 + (1)) s129)) else (if inb x5 8 = true then (bd2 (J_X8_goesBy (s111 148 x5.toNatClampNeg) s111) fun r129 s129 => (J_X8_isOtherwise_b81   k x3 x4 (x5 + (1)) s129)) else none))) else none)) else none))
set_option maxHeartbeats 4000000 in
theorem A_X8_isOtherwise_b81 (K : KT)  : ∀ (k : Nat) (x3 : Int32) (x4 : Int32) (x5 : Int32) (σ : Sg), AG K mX8_isOtherwise (fun a : Int32 × Sg => (some (.int a.1), NT, R0, a.2)) (J_X8_isOtherwise_b81   k x3 x4 x5 σ) 81 [some (.ref 141), none, none, some (.int x3), some (.int x4), some (.int x5)] [] σ := by
  intro k
  induction k with
  | zero => intro x3 x4 x5 σ; exact ag_none
  | succ k ih =>
    intro x3 x4 x5 σ
    rw [J_X8_isOtherwise_b81]
    refine ag_iload_5 (q := 83) dX8_isOtherwise_81 rfl ?_
    refine ag_aload_0 (q := 84) dX8_isOtherwise_83 rfl ?_
    refine ag_getI (q := 87) dX8_isOtherwise_84 rfl fl8_175 (by decide) (congrArg Prod.fst s_141) rfl ?_
    refine ag_icmp_ge (tgt := 138) (q := 90) dX8_isOtherwise_87 rfl rfl ?_ ?_
    · refine ag_aload_0 (q := 139) dX8_isOtherwise_138 rfl ?_
      refine ag_getR (q := 142) dX8_isOtherwise_139 rfl fl8_55 (by decide) (congrArg Prod.fst s_141) rfl r_141_31 ?_
      refine ag_bipush (q := 144) (v := 37) dX8_isOtherwise_142 rfl (by decide) ?_
      refine ag_iload_3 (q := 145) dX8_isOtherwise_144 rfl ?_
      refine ag_iadd (q := 146) dX8_isOtherwise_145 rfl ?_
      refine ag_iald (q := 147) dX8_isOtherwise_146 rfl (by decide) s_157 ?_
      refine ag_iload_4 (q := 149) dX8_isOtherwise_147 rfl ?_
      refine ag_icmp_ne (tgt := 156) (q := 152) dX8_isOtherwise_149 rfl rfl ?_ ?_
      · refine ag_iconst (q := 157) (v := 0) dX8_isOtherwise_156 rfl (by decide) ?_
        exact ag_zretK dX8_isOtherwise_157 rfl (by decide) rfl
      refine ag_iconst (q := 153) (v := 1) dX8_isOtherwise_152 rfl (by decide) ?_
      refine ag_goto (q := 157) dX8_isOtherwise_153 rfl ?_
      exact ag_zretK dX8_isOtherwise_157 rfl (by decide) rfl
    refine ag_aload_0 (q := 91) dX8_isOtherwise_90 rfl ?_
    refine ag_aload_0 (q := 92) dX8_isOtherwise_91 rfl ?_
    refine ag_getR (q := 95) dX8_isOtherwise_92 rfl fl8_28 (by decide) (congrArg Prod.fst s_141) rfl r_141_13 ?_
    refine ag_iload_5 (q := 97) dX8_isOtherwise_95 rfl ?_
    refine ag_iald (q := 98) dX8_isOtherwise_97 rfl (by decide) s_148 ?_
    refine ag_bipush (q := 100) (v := 99) dX8_isOtherwise_98 rfl (by decide) ?_
    refine ag_icmp_eq (tgt := 127) (q := 103) dX8_isOtherwise_100 rfl rfl ?_ ?_
    · refine ag_bipush (q := 129) (v := 99) dX8_isOtherwise_127 rfl (by decide) ?_
      refine ag_callV_mU (q := 132) (av := [.int _]) (rest := []) dX8_isOtherwise_129 rfl lk8_240 (C_X8_goesBy (99 : Int32) _) (by decide) (Nat.le_of_ble_eq_true rfl) (by decide) (congrArg Prod.fst s_141) (by decide) (fun _ => rfl) (Nat.le_of_ble_eq_true rfl) rfl (fun r129 s129 e129 => ?_)
      refine ag_iinc_5 (q := 135) (d := (1)) dX8_isOtherwise_132 rfl (Nat.le_of_ble_eq_true rfl) rfl (by decide) ?_
      refine ag_goto (q := 81) dX8_isOtherwise_135 rfl ?_
      exact ih x3 x4 (x5 + (1)) s129
    refine ag_aload_0 (q := 104) dX8_isOtherwise_103 rfl ?_
    refine ag_aload_0 (q := 105) dX8_isOtherwise_104 rfl ?_
    refine ag_getR (q := 108) dX8_isOtherwise_105 rfl fl8_28 (by decide) (congrArg Prod.fst s_141) rfl r_141_13 ?_
    refine ag_iload_5 (q := 110) dX8_isOtherwise_108 rfl ?_
    refine ag_iald (q := 111) dX8_isOtherwise_110 rfl (by decide) s_148 ?_
    refine ag_callV_mI (q := 114) (av := [.int _]) (rest := [.ref _]) dX8_isOtherwise_111 rfl lk8_243 (C_X8_canDrive (σ 148 x5.toNatClampNeg) _) (by decide) (Nat.le_of_ble_eq_true rfl) (by decide) (congrArg Prod.fst s_141) (by decide) (fun _ => rfl) (Nat.le_of_ble_eq_true rfl) rfl (fun r111 s111 e111 => ?_)
    refine ag_if_eq (tgt := 127) (q := 117) dX8_isOtherwise_114 rfl rfl ?_ ?_
    · refine ag_bipush (q := 129) (v := 99) dX8_isOtherwise_127 rfl (by decide) ?_
      refine ag_callV_mU (q := 132) (av := [.int _]) (rest := []) dX8_isOtherwise_129 rfl lk8_240 (C_X8_goesBy (99 : Int32) _) (by decide) (Nat.le_of_ble_eq_true rfl) (by decide) (congrArg Prod.fst s_141) (by decide) (fun _ => rfl) (Nat.le_of_ble_eq_true rfl) rfl (fun r129 s129 e129 => ?_)
      refine ag_iinc_5 (q := 135) (d := (1)) dX8_isOtherwise_132 rfl (Nat.le_of_ble_eq_true rfl) rfl (by decide) ?_
      refine ag_goto (q := 81) dX8_isOtherwise_135 rfl ?_
      exact ih x3 x4 (x5 + (1)) s129
    refine ag_aload_0 (q := 118) dX8_isOtherwise_117 rfl ?_
    refine ag_getR (q := 121) dX8_isOtherwise_118 rfl fl8_28 (by decide) (congrArg Prod.fst s_141) rfl r_141_13 ?_
    refine ag_iload_5 (q := 123) dX8_isOtherwise_121 rfl ?_
    refine ag_iald (q := 124) dX8_isOtherwise_123 rfl (by decide) s_148 ?_
    refine ag_goto (q := 129) dX8_isOtherwise_124 rfl ?_
    refine ag_callV_mU (q := 132) (av := [.int _]) (rest := []) dX8_isOtherwise_129 rfl lk8_240 (C_X8_goesBy (s111 148 x5.toNatClampNeg) _) (by decide) (Nat.le_of_ble_eq_true rfl) (by decide) (congrArg Prod.fst s_141) (by decide) (fun _ => rfl) (Nat.le_of_ble_eq_true rfl) rfl (fun r129 s129 e129 => ?_)
    refine ag_iinc_5 (q := 135) (d := (1)) dX8_isOtherwise_132 rfl (Nat.le_of_ble_eq_true rfl) rfl (by decide) ?_
    refine ag_goto (q := 81) dX8_isOtherwise_135 rfl ?_
    exact ih x3 x4 (x5 + (1)) s129
def J_X8_isOtherwise (a1 : Int32) (a2 : Int32) (a3 : Int32) (a4 : Int32) (σ : Sg) : Option (Int32 × Sg) :=
  (bd2 (J_X8_copies 157 (0 : Int32) 147 ((54 : Int32) * a1) (54 : Int32) σ) fun r15 s15 => (if inb a1 8 = true then (if a2 = (s15 148 a1.toNatClampNeg) then (some ((0 : Int32), s15)) else (if a2 = (99 : Int32) then (bd2 (J_X8_goesBy a2 s15) fun r73 s73 => (J_X8_isOtherwise_b81   FU a3 a4 (a1 + (1 : Int32)) s73)) else (if inb a1 8 = true then (if (s15 148 a1.toNatClampNeg) = (99 : Int32) then (bd2 (J_X8_canDrive a2 s15) fun r63 s63 => (if r63 = 0 then (some ((0 : Int32), s63)) else (bd2 (J_X8_goesBy a2 s63) fun r73 s73 => (J_X8_isOtherwise_b81   FU a3 a4 (a1 + (1 : Int32)) s73)))) else (if inb a1 8 = true then (if (a2 / (10 : Int32)) = ((s15 148 a1.toNatClampNeg) / (10 : Int32)) then (bd2 (J_X8_canDrive a2 s15) fun r63 s63 => (if r63 = 0 then (some ((0 : Int32), s63)) else (bd2 (J_X8_goesBy a2 s63) fun r73 s73 => (J_X8_isOtherwise_b81   FU a3 a4 (a1 + (1 : Int32)) s73)))) else (some ((0 : Int32), s15))) else none)) else none))) else none))
set_option maxHeartbeats 4000000 in
theorem A_X8_isOtherwise (K : KT) (a1 : Int32) (a2 : Int32) (a3 : Int32) (a4 : Int32) (σ : Sg) : AG K mX8_isOtherwise (fun a : Int32 × Sg => (some (.int a.1), NT, R0, a.2)) (J_X8_isOtherwise a1 a2 a3 a4 σ) 0 [some (.ref 141), some (.int a1), some (.int a2), some (.int a3), some (.int a4), none] [] σ := by
  unfold J_X8_isOtherwise
  refine ag_aload_0 (q := 1) dX8_isOtherwise_0 rfl ?_
  refine ag_getR (q := 4) dX8_isOtherwise_1 rfl fl8_55 (by decide) (congrArg Prod.fst s_141) rfl r_141_31 ?_
  refine ag_iconst (q := 5) (v := 0) dX8_isOtherwise_4 rfl (by decide) ?_
  refine ag_aload_0 (q := 6) dX8_isOtherwise_5 rfl ?_
  refine ag_getR (q := 9) dX8_isOtherwise_6 rfl fl8_25 (by decide) (congrArg Prod.fst s_141) rfl r_141_12 ?_
  refine ag_bipush (q := 11) (v := 54) dX8_isOtherwise_9 rfl (by decide) ?_
  refine ag_iload_1 (q := 12) dX8_isOtherwise_11 rfl ?_
  refine ag_imul (q := 13) dX8_isOtherwise_12 rfl ?_
  refine ag_bipush (q := 15) (v := 54) dX8_isOtherwise_13 rfl (by decide) ?_
  refine ag_callS_mU (q := 18) (av := [.ref _, .int _, .ref _, .int _, .int _]) (rest := []) dX8_isOtherwise_15 rfl lk8_162 (C_X8_copies 157 (by decide) (0 : Int32) 147 (by decide) ((54 : Int32) * a1) (54 : Int32) _) (by decide) (Nat.le_of_ble_eq_true rfl) (fun _ => rfl) (Nat.le_of_ble_eq_true rfl) rfl (fun r15 s15 e15 => ?_)
  refine ag_iload_2 (q := 19) dX8_isOtherwise_18 rfl ?_
  refine ag_aload_0 (q := 20) dX8_isOtherwise_19 rfl ?_
  refine ag_getR (q := 23) dX8_isOtherwise_20 rfl fl8_28 (by decide) (congrArg Prod.fst s_141) rfl r_141_13 ?_
  refine ag_iload_1 (q := 24) dX8_isOtherwise_23 rfl ?_
  refine ag_iald (q := 25) dX8_isOtherwise_24 rfl (by decide) s_148 ?_
  refine ag_icmp_eq (tgt := 69) (q := 28) dX8_isOtherwise_25 rfl rfl ?_ ?_
  · refine ag_iconst (q := 70) (v := 0) dX8_isOtherwise_69 rfl (by decide) ?_
    exact ag_zretK dX8_isOtherwise_70 rfl (by decide) rfl
  refine ag_iload_2 (q := 29) dX8_isOtherwise_28 rfl ?_
  refine ag_bipush (q := 31) (v := 99) dX8_isOtherwise_29 rfl (by decide) ?_
  refine ag_icmp_eq (tgt := 71) (q := 34) dX8_isOtherwise_31 rfl rfl ?_ ?_
  · refine ag_aload_0 (q := 72) dX8_isOtherwise_71 rfl ?_
    refine ag_iload_2 (q := 73) dX8_isOtherwise_72 rfl ?_
    refine ag_callV_mU (q := 76) (av := [.int _]) (rest := []) dX8_isOtherwise_73 rfl lk8_240 (C_X8_goesBy a2 _) (by decide) (Nat.le_of_ble_eq_true rfl) (by decide) (congrArg Prod.fst s_141) (by decide) (fun _ => rfl) (Nat.le_of_ble_eq_true rfl) rfl (fun r73 s73 e73 => ?_)
    refine ag_iload_1 (q := 77) dX8_isOtherwise_76 rfl ?_
    refine ag_iconst (q := 78) (v := 1) dX8_isOtherwise_77 rfl (by decide) ?_
    refine ag_iadd (q := 79) dX8_isOtherwise_78 rfl ?_
    refine ag_istore_5 (q := 81) dX8_isOtherwise_79 rfl (Nat.le_of_ble_eq_true rfl) rfl ?_
    refine ag_kill_1 ?_
    refine ag_kill_2 ?_
    exact A_X8_isOtherwise_b81 K   FU a3 a4 (a1 + (1 : Int32)) s73
  refine ag_aload_0 (q := 35) dX8_isOtherwise_34 rfl ?_
  refine ag_getR (q := 38) dX8_isOtherwise_35 rfl fl8_28 (by decide) (congrArg Prod.fst s_141) rfl r_141_13 ?_
  refine ag_iload_1 (q := 39) dX8_isOtherwise_38 rfl ?_
  refine ag_iald (q := 40) dX8_isOtherwise_39 rfl (by decide) s_148 ?_
  refine ag_bipush (q := 42) (v := 99) dX8_isOtherwise_40 rfl (by decide) ?_
  refine ag_icmp_eq (tgt := 61) (q := 45) dX8_isOtherwise_42 rfl rfl ?_ ?_
  · refine ag_aload_0 (q := 62) dX8_isOtherwise_61 rfl ?_
    refine ag_iload_2 (q := 63) dX8_isOtherwise_62 rfl ?_
    refine ag_callV_mI (q := 66) (av := [.int _]) (rest := []) dX8_isOtherwise_63 rfl lk8_243 (C_X8_canDrive a2 _) (by decide) (Nat.le_of_ble_eq_true rfl) (by decide) (congrArg Prod.fst s_141) (by decide) (fun _ => rfl) (Nat.le_of_ble_eq_true rfl) rfl (fun r63 s63 e63 => ?_)
    refine ag_if_ne (tgt := 71) (q := 69) dX8_isOtherwise_66 rfl rfl ?_ ?_
    · refine ag_aload_0 (q := 72) dX8_isOtherwise_71 rfl ?_
      refine ag_iload_2 (q := 73) dX8_isOtherwise_72 rfl ?_
      refine ag_callV_mU (q := 76) (av := [.int _]) (rest := []) dX8_isOtherwise_73 rfl lk8_240 (C_X8_goesBy a2 _) (by decide) (Nat.le_of_ble_eq_true rfl) (by decide) (congrArg Prod.fst s_141) (by decide) (fun _ => rfl) (Nat.le_of_ble_eq_true rfl) rfl (fun r73 s73 e73 => ?_)
      refine ag_iload_1 (q := 77) dX8_isOtherwise_76 rfl ?_
      refine ag_iconst (q := 78) (v := 1) dX8_isOtherwise_77 rfl (by decide) ?_
      refine ag_iadd (q := 79) dX8_isOtherwise_78 rfl ?_
      refine ag_istore_5 (q := 81) dX8_isOtherwise_79 rfl (Nat.le_of_ble_eq_true rfl) rfl ?_
      refine ag_kill_1 ?_
      refine ag_kill_2 ?_
      exact A_X8_isOtherwise_b81 K   FU a3 a4 (a1 + (1 : Int32)) s73
    refine ag_iconst (q := 70) (v := 0) dX8_isOtherwise_69 rfl (by decide) ?_
    exact ag_zretK dX8_isOtherwise_70 rfl (by decide) rfl
  refine ag_iload_2 (q := 46) dX8_isOtherwise_45 rfl ?_
  refine ag_bipush (q := 48) (v := 10) dX8_isOtherwise_46 rfl (by decide) ?_
  refine ag_idivK (q := 49) dX8_isOtherwise_48 rfl (by decide) ?_
  refine ag_aload_0 (q := 50) dX8_isOtherwise_49 rfl ?_
  refine ag_getR (q := 53) dX8_isOtherwise_50 rfl fl8_28 (by decide) (congrArg Prod.fst s_141) rfl r_141_13 ?_
  refine ag_iload_1 (q := 54) dX8_isOtherwise_53 rfl ?_
  refine ag_iald (q := 55) dX8_isOtherwise_54 rfl (by decide) s_148 ?_
  refine ag_bipush (q := 57) (v := 10) dX8_isOtherwise_55 rfl (by decide) ?_
  refine ag_idivK (q := 58) dX8_isOtherwise_57 rfl (by decide) ?_
  refine ag_icmp_ne (tgt := 69) (q := 61) dX8_isOtherwise_58 rfl rfl ?_ ?_
  · refine ag_iconst (q := 70) (v := 0) dX8_isOtherwise_69 rfl (by decide) ?_
    exact ag_zretK dX8_isOtherwise_70 rfl (by decide) rfl
  refine ag_aload_0 (q := 62) dX8_isOtherwise_61 rfl ?_
  refine ag_iload_2 (q := 63) dX8_isOtherwise_62 rfl ?_
  refine ag_callV_mI (q := 66) (av := [.int _]) (rest := []) dX8_isOtherwise_63 rfl lk8_243 (C_X8_canDrive a2 _) (by decide) (Nat.le_of_ble_eq_true rfl) (by decide) (congrArg Prod.fst s_141) (by decide) (fun _ => rfl) (Nat.le_of_ble_eq_true rfl) rfl (fun r63 s63 e63 => ?_)
  refine ag_if_ne (tgt := 71) (q := 69) dX8_isOtherwise_66 rfl rfl ?_ ?_
  · refine ag_aload_0 (q := 72) dX8_isOtherwise_71 rfl ?_
    refine ag_iload_2 (q := 73) dX8_isOtherwise_72 rfl ?_
    refine ag_callV_mU (q := 76) (av := [.int _]) (rest := []) dX8_isOtherwise_73 rfl lk8_240 (C_X8_goesBy a2 _) (by decide) (Nat.le_of_ble_eq_true rfl) (by decide) (congrArg Prod.fst s_141) (by decide) (fun _ => rfl) (Nat.le_of_ble_eq_true rfl) rfl (fun r73 s73 e73 => ?_)
    refine ag_iload_1 (q := 77) dX8_isOtherwise_76 rfl ?_
    refine ag_iconst (q := 78) (v := 1) dX8_isOtherwise_77 rfl (by decide) ?_
    refine ag_iadd (q := 79) dX8_isOtherwise_78 rfl ?_
    refine ag_istore_5 (q := 81) dX8_isOtherwise_79 rfl (Nat.le_of_ble_eq_true rfl) rfl ?_
    refine ag_kill_1 ?_
    refine ag_kill_2 ?_
    exact A_X8_isOtherwise_b81 K   FU a3 a4 (a1 + (1 : Int32)) s73
  refine ag_iconst (q := 70) (v := 0) dX8_isOtherwise_69 rfl (by decide) ?_
  exact ag_zretK dX8_isOtherwise_70 rfl (by decide) rfl
theorem C_X8_isOtherwise (a1 : Int32) (a2 : Int32) (a3 : Int32) (a4 : Int32) (σ : Sg) : ∀ r s', J_X8_isOtherwise a1 a2 a3 a4 σ = some (r, s') → AMc yX8_isOtherwise mX8_isOtherwise [.ref 141, .int a1, .int a2, .int a3, .int a4] NT R0 σ (some (.int r), NT, R0, s') := fun r s' e => AMc.of (L := [some (.ref 141), some (.int a1), some (.int a2), some (.int a3), some (.int a4), none]) (by decide) rfl (fun _ => rfl) (fun _ => Nat.le_of_ble_eq_true rfl) (Nat.le_refl _) (fun K => A_X8_isOtherwise K a1 a2 a3 a4 σ _ e)
def J_X8_otherwise_b72  (y37 : Int32 → Int32 → Int32 → Int32 → Int32 → Int32 → Sg → Option (Int32 × Sg)) (y49 : Int32 → Int32 → Int32 → Int32 → Int32 → Int32 → Int32 → Sg → Option (Int32 × Sg)) (x1 : Int32) (x2 : Int32) (x3 : Int32) (x4 : Int32) (x5 : Int32) (x6 : Int32) (x7 : Int32) (σ : Sg) : Option (Int32 × Sg) :=
  (bd2 (J_X8_isOtherwise (((σ 141 11) - (1 : Int32)) - x6) x7 x1 x2 σ) fun r86 s86 => (if r86 = 0 then (y49 x1 x2 x3 x4 x5 x6 (x7 + (1)) s86) else (if x4 = 0 then (y49 x1 x2 x3 (x4 + (1)) (((100 : Int32) * x6) + x7) x6 (x7 + (1)) s86) else (y49 x1 x2 x3 (x4 + (1)) x5 x6 (x7 + (1)) s86))))
set_option maxHeartbeats 4000000 in
theorem A_X8_otherwise_b72 (K : KT)  (y37 : Int32 → Int32 → Int32 → Int32 → Int32 → Int32 → Sg → Option (Int32 × Sg)) (hy37 : ∀ (x1 : Int32) (x2 : Int32) (x3 : Int32) (x4 : Int32) (x5 : Int32) (x6 : Int32) (σ : Sg), AG K mX8_otherwise (fun a : Int32 × Sg => (some (.int a.1), NT, R0, a.2)) (y37 x1 x2 x3 x4 x5 x6 σ) 37 [some (.ref 141), some (.int x1), some (.int x2), some (.int x3), some (.int x4), some (.int x5), some (.int x6), none] [] σ) (y49 : Int32 → Int32 → Int32 → Int32 → Int32 → Int32 → Int32 → Sg → Option (Int32 × Sg)) (hy49 : ∀ (x1 : Int32) (x2 : Int32) (x3 : Int32) (x4 : Int32) (x5 : Int32) (x6 : Int32) (x7 : Int32) (σ : Sg), AG K mX8_otherwise (fun a : Int32 × Sg => (some (.int a.1), NT, R0, a.2)) (y49 x1 x2 x3 x4 x5 x6 x7 σ) 49 [some (.ref 141), some (.int x1), some (.int x2), some (.int x3), some (.int x4), some (.int x5), some (.int x6), some (.int x7)] [] σ) (x1 : Int32) (x2 : Int32) (x3 : Int32) (x4 : Int32) (x5 : Int32) (x6 : Int32) (x7 : Int32) (σ : Sg) : AG K mX8_otherwise (fun a : Int32 × Sg => (some (.int a.1), NT, R0, a.2)) (J_X8_otherwise_b72  y37 y49 x1 x2 x3 x4 x5 x6 x7 σ) 72 [some (.ref 141), some (.int x1), some (.int x2), some (.int x3), some (.int x4), some (.int x5), some (.int x6), some (.int x7)] [] σ := by
  unfold J_X8_otherwise_b72
  refine ag_aload_0 (q := 73) dX8_otherwise_72 rfl ?_
  refine ag_aload_0 (q := 74) dX8_otherwise_73 rfl ?_
  refine ag_getI (q := 77) dX8_otherwise_74 rfl fl8_175 (by decide) (congrArg Prod.fst s_141) rfl ?_
  refine ag_iconst (q := 78) (v := 1) dX8_otherwise_77 rfl (by decide) ?_
  refine ag_isub (q := 79) dX8_otherwise_78 rfl ?_
  refine ag_iload_6 (q := 81) dX8_otherwise_79 rfl ?_
  refine ag_isub (q := 82) dX8_otherwise_81 rfl ?_
  refine ag_iload_7 (q := 84) dX8_otherwise_82 rfl ?_
  refine ag_iload_1 (q := 85) dX8_otherwise_84 rfl ?_
  refine ag_iload_2 (q := 86) dX8_otherwise_85 rfl ?_
  refine ag_callV_mI (q := 89) (av := [.int _, .int _, .int _, .int _]) (rest := []) dX8_otherwise_86 rfl lk8_282 (C_X8_isOtherwise (((σ 141 11) - (1 : Int32)) - x6) x7 x1 x2 _) (by decide) (Nat.le_of_ble_eq_true rfl) (by decide) (congrArg Prod.fst s_141) (by decide) (fun _ => rfl) (Nat.le_of_ble_eq_true rfl) rfl (fun r86 s86 e86 => ?_)
  refine ag_if_eq (tgt := 115) (q := 92) dX8_otherwise_89 rfl rfl ?_ ?_
  · refine ag_iinc_7 (q := 118) (d := (1)) dX8_otherwise_115 rfl (Nat.le_of_ble_eq_true rfl) rfl (by decide) ?_
    refine ag_goto (q := 49) dX8_otherwise_118 rfl ?_
    exact hy49 x1 x2 x3 x4 x5 x6 (x7 + (1)) s86
  refine ag_iload_4 (q := 94) dX8_otherwise_92 rfl ?_
  refine ag_if_ne (tgt := 108) (q := 97) dX8_otherwise_94 rfl rfl ?_ ?_
  · refine ag_iload_5 (q := 110) dX8_otherwise_108 rfl ?_
    refine ag_istore_5 (q := 112) dX8_otherwise_110 rfl (Nat.le_of_ble_eq_true rfl) rfl ?_
    refine ag_iinc_4 (q := 115) (d := (1)) dX8_otherwise_112 rfl (Nat.le_of_ble_eq_true rfl) rfl (by decide) ?_
    refine ag_iinc_7 (q := 118) (d := (1)) dX8_otherwise_115 rfl (Nat.le_of_ble_eq_true rfl) rfl (by decide) ?_
    refine ag_goto (q := 49) dX8_otherwise_118 rfl ?_
    exact hy49 x1 x2 x3 (x4 + (1)) x5 x6 (x7 + (1)) s86
  refine ag_bipush (q := 99) (v := 100) dX8_otherwise_97 rfl (by decide) ?_
  refine ag_iload_6 (q := 101) dX8_otherwise_99 rfl ?_
  refine ag_imul (q := 102) dX8_otherwise_101 rfl ?_
  refine ag_iload_7 (q := 104) dX8_otherwise_102 rfl ?_
  refine ag_iadd (q := 105) dX8_otherwise_104 rfl ?_
  refine ag_goto (q := 110) dX8_otherwise_105 rfl ?_
  refine ag_istore_5 (q := 112) dX8_otherwise_110 rfl (Nat.le_of_ble_eq_true rfl) rfl ?_
  refine ag_iinc_4 (q := 115) (d := (1)) dX8_otherwise_112 rfl (Nat.le_of_ble_eq_true rfl) rfl (by decide) ?_
  refine ag_iinc_7 (q := 118) (d := (1)) dX8_otherwise_115 rfl (Nat.le_of_ble_eq_true rfl) rfl (by decide) ?_
  refine ag_goto (q := 49) dX8_otherwise_118 rfl ?_
  exact hy49 x1 x2 x3 (x4 + (1)) (((100 : Int32) * x6) + x7) x6 (x7 + (1)) s86
def J_X8_otherwise_b49  (y37 : Int32 → Int32 → Int32 → Int32 → Int32 → Int32 → Sg → Option (Int32 × Sg)) : Nat → Int32 → Int32 → Int32 → Int32 → Int32 → Int32 → Int32 → Sg → Option (Int32 × Sg)
  | 0, _, _, _, _, _, _, _, _ => none
  | k + 1, x1, x2, x3, x4, x5, x6, x7, σ =>
    (if (99 : Int32) < x7 then (y37 x1 x2 x3 x4 x5 (x6 + (1)) σ) else (if (rmI x7 (10 : Int32)) < (4 : Int32) then (J_X8_otherwise_b72  y37 (fun x1 x2 x3 x4 x5 x6 x7 σ => J_X8_otherwise_b49  y37 k x1 x2 x3 x4 x5 x6 x7 σ) x1 x2 x3 x4 x5 x6 x7 σ) else (if x7 = (99 : Int32) then (J_X8_otherwise_b72  y37 (fun x1 x2 x3 x4 x5 x6 x7 σ => J_X8_otherwise_b49  y37 k x1 x2 x3 x4 x5 x6 x7 σ) x1 x2 x3 x4 x5 x6 x7 σ) else (J_X8_otherwise_b49  y37 k x1 x2 x3 x4 x5 x6 (x7 + (1)) σ))))
set_option maxHeartbeats 4000000 in
theorem A_X8_otherwise_b49 (K : KT)  (y37 : Int32 → Int32 → Int32 → Int32 → Int32 → Int32 → Sg → Option (Int32 × Sg)) (hy37 : ∀ (x1 : Int32) (x2 : Int32) (x3 : Int32) (x4 : Int32) (x5 : Int32) (x6 : Int32) (σ : Sg), AG K mX8_otherwise (fun a : Int32 × Sg => (some (.int a.1), NT, R0, a.2)) (y37 x1 x2 x3 x4 x5 x6 σ) 37 [some (.ref 141), some (.int x1), some (.int x2), some (.int x3), some (.int x4), some (.int x5), some (.int x6), none] [] σ) : ∀ (k : Nat) (x1 : Int32) (x2 : Int32) (x3 : Int32) (x4 : Int32) (x5 : Int32) (x6 : Int32) (x7 : Int32) (σ : Sg), AG K mX8_otherwise (fun a : Int32 × Sg => (some (.int a.1), NT, R0, a.2)) (J_X8_otherwise_b49  y37 k x1 x2 x3 x4 x5 x6 x7 σ) 49 [some (.ref 141), some (.int x1), some (.int x2), some (.int x3), some (.int x4), some (.int x5), some (.int x6), some (.int x7)] [] σ := by
  intro k
  induction k with
  | zero => intro x1 x2 x3 x4 x5 x6 x7 σ; exact ag_none
  | succ k ih =>
    intro x1 x2 x3 x4 x5 x6 x7 σ
    rw [J_X8_otherwise_b49]
    refine ag_iload_7 (q := 51) dX8_otherwise_49 rfl ?_
    refine ag_bipush (q := 53) (v := 99) dX8_otherwise_51 rfl (by decide) ?_
    refine ag_icmp_gt (tgt := 121) (q := 56) dX8_otherwise_53 rfl rfl ?_ ?_
    · refine ag_iinc_6 (q := 124) (d := (1)) dX8_otherwise_121 rfl (Nat.le_of_ble_eq_true rfl) rfl (by decide) ?_
      refine ag_goto (q := 37) dX8_otherwise_124 rfl ?_
      refine ag_kill_7 ?_
      exact hy37 x1 x2 x3 x4 x5 (x6 + (1)) σ
    refine ag_iload_7 (q := 58) dX8_otherwise_56 rfl ?_
    refine ag_bipush (q := 60) (v := 10) dX8_otherwise_58 rfl (by decide) ?_
    refine ag_iremK (q := 61) dX8_otherwise_60 rfl (by decide) ?_
    refine ag_iconst (q := 62) (v := 4) dX8_otherwise_61 rfl (by decide) ?_
    refine ag_icmp_lt (tgt := 72) (q := 65) dX8_otherwise_62 rfl rfl ?_ ?_
    · exact A_X8_otherwise_b72 K  y37 hy37 (fun x1 x2 x3 x4 x5 x6 x7 σ => J_X8_otherwise_b49  y37 k x1 x2 x3 x4 x5 x6 x7 σ) (fun x1 x2 x3 x4 x5 x6 x7 σ => ih x1 x2 x3 x4 x5 x6 x7 σ) x1 x2 x3 x4 x5 x6 x7 σ
    refine ag_iload_7 (q := 67) dX8_otherwise_65 rfl ?_
    refine ag_bipush (q := 69) (v := 99) dX8_otherwise_67 rfl (by decide) ?_
    refine ag_icmp_ne (tgt := 115) (q := 72) dX8_otherwise_69 rfl rfl ?_ ?_
    · refine ag_iinc_7 (q := 118) (d := (1)) dX8_otherwise_115 rfl (Nat.le_of_ble_eq_true rfl) rfl (by decide) ?_
      refine ag_goto (q := 49) dX8_otherwise_118 rfl ?_
      exact ih x1 x2 x3 x4 x5 x6 (x7 + (1)) σ
    exact A_X8_otherwise_b72 K  y37 hy37 (fun x1 x2 x3 x4 x5 x6 x7 σ => J_X8_otherwise_b49  y37 k x1 x2 x3 x4 x5 x6 x7 σ) (fun x1 x2 x3 x4 x5 x6 x7 σ => ih x1 x2 x3 x4 x5 x6 x7 σ) x1 x2 x3 x4 x5 x6 x7 σ
def J_X8_otherwise_b37  : Nat → Int32 → Int32 → Int32 → Int32 → Int32 → Int32 → Sg → Option (Int32 × Sg)
  | 0, _, _, _, _, _, _, _ => none
  | k + 1, x1, x2, x3, x4, x5, x6, σ =>
    (if (σ 141 11) ≤ x6 then (if x3 = 0 then (some (x4, σ)) else (some (x5, σ))) else (J_X8_otherwise_b49  (fun x1 x2 x3 x4 x5 x6 σ => J_X8_otherwise_b37   k x1 x2 x3 x4 x5 x6 σ) FU x1 x2 x3 x4 x5 x6 (0 : Int32) σ))
set_option maxHeartbeats 4000000 in
theorem A_X8_otherwise_b37 (K : KT)  : ∀ (k : Nat) (x1 : Int32) (x2 : Int32) (x3 : Int32) (x4 : Int32) (x5 : Int32) (x6 : Int32) (σ : Sg), AG K mX8_otherwise (fun a : Int32 × Sg => (some (.int a.1), NT, R0, a.2)) (J_X8_otherwise_b37   k x1 x2 x3 x4 x5 x6 σ) 37 [some (.ref 141), some (.int x1), some (.int x2), some (.int x3), some (.int x4), some (.int x5), some (.int x6), none] [] σ := by
  intro k
  induction k with
  | zero => intro x1 x2 x3 x4 x5 x6 σ; exact ag_none
  | succ k ih =>
    intro x1 x2 x3 x4 x5 x6 σ
    rw [J_X8_otherwise_b37]
    refine ag_iload_6 (q := 39) dX8_otherwise_37 rfl ?_
    refine ag_aload_0 (q := 40) dX8_otherwise_39 rfl ?_
    refine ag_getI (q := 43) dX8_otherwise_40 rfl fl8_175 (by decide) (congrArg Prod.fst s_141) rfl ?_
    refine ag_icmp_ge (tgt := 127) (q := 46) dX8_otherwise_43 rfl rfl ?_ ?_
    · refine ag_iload_3 (q := 128) dX8_otherwise_127 rfl ?_
      refine ag_if_ne (tgt := 136) (q := 131) dX8_otherwise_128 rfl rfl ?_ ?_
      · refine ag_iload_5 (q := 138) dX8_otherwise_136 rfl ?_
        exact ag_iret dX8_otherwise_138 rfl rfl
      refine ag_iload_4 (q := 133) dX8_otherwise_131 rfl ?_
      refine ag_goto (q := 138) dX8_otherwise_133 rfl ?_
      exact ag_iret dX8_otherwise_138 rfl rfl
    refine ag_iconst (q := 47) (v := 0) dX8_otherwise_46 rfl (by decide) ?_
    refine ag_istore_7 (q := 49) dX8_otherwise_47 rfl (Nat.le_of_ble_eq_true rfl) rfl ?_
    exact A_X8_otherwise_b49 K  (fun x1 x2 x3 x4 x5 x6 σ => J_X8_otherwise_b37   k x1 x2 x3 x4 x5 x6 σ) (fun x1 x2 x3 x4 x5 x6 σ => ih x1 x2 x3 x4 x5 x6 σ) FU x1 x2 x3 x4 x5 x6 (0 : Int32) σ
def J_X8_otherwise (a1 : Int32) (a2 : Int32) (a3 : Int32) (σ : Sg) : Option (Int32 × Sg) :=
  (bd1 (J_X8_isBeast a1 σ) fun r2 => (if r2 = 0 then (some ((-1 : Int32), σ)) else (bd1 (J_X8_isSquare a2 σ) fun r10 => (if r10 = 0 then (some ((-1 : Int32), σ)) else (bd1 (J_X8_in a3 (0 : Int32) (1 : Int32) σ) fun r19 => (if r19 = 0 then (some ((-1 : Int32), σ)) else (J_X8_otherwise_b37   FU a1 a2 a3 (0 : Int32) (-4 : Int32) (0 : Int32) σ)))))))
set_option maxHeartbeats 4000000 in
theorem A_X8_otherwise (K : KT) (a1 : Int32) (a2 : Int32) (a3 : Int32) (σ : Sg) : AG K mX8_otherwise (fun a : Int32 × Sg => (some (.int a.1), NT, R0, a.2)) (J_X8_otherwise a1 a2 a3 σ) 0 [some (.ref 141), some (.int a1), some (.int a2), some (.int a3), none, none, none, none] [] σ := by
  unfold J_X8_otherwise
  refine ag_aload_0 (q := 1) dX8_otherwise_0 rfl ?_
  refine ag_iload_1 (q := 2) dX8_otherwise_1 rfl ?_
  refine ag_callV_pI (q := 5) (av := [.int _]) (rest := []) dX8_otherwise_2 rfl lk8_231 (C_X8_isBeast a1 _) (by decide) (Nat.le_of_ble_eq_true rfl) (by decide) (congrArg Prod.fst s_141) (by decide) (fun _ => rfl) (Nat.le_of_ble_eq_true rfl) rfl (fun r2 e2 => ?_)
  refine ag_if_eq (tgt := 25) (q := 8) dX8_otherwise_5 rfl rfl ?_ ?_
  · refine ag_iconst (q := 26) (v := -1) dX8_otherwise_25 rfl (by decide) ?_
    exact ag_iret dX8_otherwise_26 rfl rfl
  refine ag_aload_0 (q := 9) dX8_otherwise_8 rfl ?_
  refine ag_iload_2 (q := 10) dX8_otherwise_9 rfl ?_
  refine ag_callV_pI (q := 13) (av := [.int _]) (rest := []) dX8_otherwise_10 rfl lk8_225 (C_X8_isSquare a2 _) (by decide) (Nat.le_of_ble_eq_true rfl) (by decide) (congrArg Prod.fst s_141) (by decide) (fun _ => rfl) (Nat.le_of_ble_eq_true rfl) rfl (fun r10 e10 => ?_)
  refine ag_if_eq (tgt := 25) (q := 16) dX8_otherwise_13 rfl rfl ?_ ?_
  · refine ag_iconst (q := 26) (v := -1) dX8_otherwise_25 rfl (by decide) ?_
    exact ag_iret dX8_otherwise_26 rfl rfl
  refine ag_iload_3 (q := 17) dX8_otherwise_16 rfl ?_
  refine ag_iconst (q := 18) (v := 0) dX8_otherwise_17 rfl (by decide) ?_
  refine ag_iconst (q := 19) (v := 1) dX8_otherwise_18 rfl (by decide) ?_
  refine ag_callS_pI (q := 22) (av := [.int _, .int _, .int _]) (rest := []) dX8_otherwise_19 rfl lk8_115 (C_X8_in a3 (0 : Int32) (1 : Int32) _) (by decide) (Nat.le_of_ble_eq_true rfl) (fun _ => rfl) (Nat.le_of_ble_eq_true rfl) rfl (fun r19 e19 => ?_)
  refine ag_if_ne (tgt := 27) (q := 25) dX8_otherwise_22 rfl rfl ?_ ?_
  · refine ag_iconst (q := 28) (v := 0) dX8_otherwise_27 rfl (by decide) ?_
    refine ag_istore_4 (q := 30) dX8_otherwise_28 rfl (Nat.le_of_ble_eq_true rfl) rfl ?_
    refine ag_bipush (q := 32) (v := -4) dX8_otherwise_30 rfl (by decide) ?_
    refine ag_istore_5 (q := 34) dX8_otherwise_32 rfl (Nat.le_of_ble_eq_true rfl) rfl ?_
    refine ag_iconst (q := 35) (v := 0) dX8_otherwise_34 rfl (by decide) ?_
    refine ag_istore_6 (q := 37) dX8_otherwise_35 rfl (Nat.le_of_ble_eq_true rfl) rfl ?_
    exact A_X8_otherwise_b37 K   FU a1 a2 a3 (0 : Int32) (-4 : Int32) (0 : Int32) σ
  refine ag_iconst (q := 26) (v := -1) dX8_otherwise_25 rfl (by decide) ?_
  exact ag_iret dX8_otherwise_26 rfl rfl
theorem C_X8_otherwise (a1 : Int32) (a2 : Int32) (a3 : Int32) (σ : Sg) : ∀ r s', J_X8_otherwise a1 a2 a3 σ = some (r, s') → AMc yX8_otherwise mX8_otherwise [.ref 141, .int a1, .int a2, .int a3] NT R0 σ (some (.int r), NT, R0, s') := fun r s' e => AMc.of (L := [some (.ref 141), some (.int a1), some (.int a2), some (.int a3), none, none, none, none]) (by decide) rfl (fun _ => rfl) (fun _ => Nat.le_of_ble_eq_true rfl) (Nat.le_refl _) (fun K => A_X8_otherwise K a1 a2 a3 σ _ e)
def J_X8_isNearBog_b4  : Nat → Int32 → Int32 → Int32 → Sg → Option Int32
  | 0, _, _, _, _ => none
  | k + 1, x1, x2, x3, σ =>
    (if (4 : Int32) ≤ x3 then (if x2 = 0 ∨ x2 = 1 then some x2 else none) else (bd1 (J_X8_nextTo x1 x3 σ) fun r12 => (if x2 = 0 then (if r12 < 0 then (J_X8_isNearBog_b4   k x1 (0 : Int32) (x3 + (1)) σ) else (if inb r12 36 = true then (if (σ 142 r12.toNatClampNeg) = (9 : Int32) then (J_X8_isNearBog_b4   k x1 (1 : Int32) (x3 + (1)) σ) else (J_X8_isNearBog_b4   k x1 (0 : Int32) (x3 + (1)) σ)) else none)) else (J_X8_isNearBog_b4   k x1 (1 : Int32) (x3 + (1)) σ))))
set_option maxHeartbeats 4000000 in
theorem A_X8_isNearBog_b4 (K : KT)  : ∀ (k : Nat) (x1 : Int32) (x2 : Int32) (x3 : Int32) (σ : Sg), AG K mX8_isNearBog (fun a : Int32 => (some (.int a), NT, R0, σ)) (J_X8_isNearBog_b4   k x1 x2 x3 σ) 4 [some (.ref 141), some (.int x1), some (.int x2), some (.int x3), none] [] σ := by
  intro k
  induction k with
  | zero => intro x1 x2 x3 σ; exact ag_none
  | succ k ih =>
    intro x1 x2 x3 σ
    rw [J_X8_isNearBog_b4]
    refine ag_iload_3 (q := 5) dX8_isNearBog_4 rfl ?_
    refine ag_iconst (q := 6) (v := 4) dX8_isNearBog_5 rfl (by decide) ?_
    refine ag_icmp_ge (tgt := 50) (q := 9) dX8_isNearBog_6 rfl rfl ?_ ?_
    · refine ag_iload_2 (q := 51) dX8_isNearBog_50 rfl ?_
      exact ag_zret dX8_isNearBog_51 rfl rfl
    refine ag_aload_0 (q := 10) dX8_isNearBog_9 rfl ?_
    refine ag_iload_1 (q := 11) dX8_isNearBog_10 rfl ?_
    refine ag_iload_3 (q := 12) dX8_isNearBog_11 rfl ?_
    refine ag_callV_pI (q := 15) (av := [.int _, .int _]) (rest := []) dX8_isNearBog_12 rfl lk8_185 (C_X8_nextTo x1 x3 _) (by decide) (Nat.le_of_ble_eq_true rfl) (by decide) (congrArg Prod.fst s_141) (by decide) (fun _ => rfl) (Nat.le_of_ble_eq_true rfl) rfl (fun r12 e12 => ?_)
    refine ag_istore_4 (q := 17) dX8_isNearBog_15 rfl (Nat.le_of_ble_eq_true rfl) rfl ?_
    refine ag_iload_2 (q := 18) dX8_isNearBog_17 rfl ?_
    refine ag_if_ne (tgt := 38) (q := 21) dX8_isNearBog_18 rfl rfl ?_ ?_
    · refine ag_iconst (q := 39) (v := 1) dX8_isNearBog_38 rfl (by decide) ?_
      refine ag_goto (q := 43) dX8_isNearBog_39 rfl ?_
      refine ag_istore_2 (q := 44) dX8_isNearBog_43 rfl (Nat.le_of_ble_eq_true rfl) rfl ?_
      refine ag_iinc_3 (q := 47) (d := (1)) dX8_isNearBog_44 rfl (Nat.le_of_ble_eq_true rfl) rfl (by decide) ?_
      refine ag_goto (q := 4) dX8_isNearBog_47 rfl ?_
      refine ag_kill_4 ?_
      exact ih x1 (1 : Int32) (x3 + (1)) σ
    refine ag_iload_4 (q := 23) dX8_isNearBog_21 rfl ?_
    refine ag_if_lt (tgt := 42) (q := 26) dX8_isNearBog_23 rfl rfl ?_ ?_
    · refine ag_iconst (q := 43) (v := 0) dX8_isNearBog_42 rfl (by decide) ?_
      refine ag_istore_2 (q := 44) dX8_isNearBog_43 rfl (Nat.le_of_ble_eq_true rfl) rfl ?_
      refine ag_iinc_3 (q := 47) (d := (1)) dX8_isNearBog_44 rfl (Nat.le_of_ble_eq_true rfl) rfl (by decide) ?_
      refine ag_goto (q := 4) dX8_isNearBog_47 rfl ?_
      refine ag_kill_4 ?_
      exact ih x1 (0 : Int32) (x3 + (1)) σ
    refine ag_aload_0 (q := 27) dX8_isNearBog_26 rfl ?_
    refine ag_getR (q := 30) dX8_isNearBog_27 rfl fl8_7 (by decide) (congrArg Prod.fst s_141) rfl r_141_2 ?_
    refine ag_iload_4 (q := 32) dX8_isNearBog_30 rfl ?_
    refine ag_iald (q := 33) dX8_isNearBog_32 rfl (by decide) s_142 ?_
    refine ag_bipush (q := 35) (v := 9) dX8_isNearBog_33 rfl (by decide) ?_
    refine ag_icmp_ne (tgt := 42) (q := 38) dX8_isNearBog_35 rfl rfl ?_ ?_
    · refine ag_iconst (q := 43) (v := 0) dX8_isNearBog_42 rfl (by decide) ?_
      refine ag_istore_2 (q := 44) dX8_isNearBog_43 rfl (Nat.le_of_ble_eq_true rfl) rfl ?_
      refine ag_iinc_3 (q := 47) (d := (1)) dX8_isNearBog_44 rfl (Nat.le_of_ble_eq_true rfl) rfl (by decide) ?_
      refine ag_goto (q := 4) dX8_isNearBog_47 rfl ?_
      refine ag_kill_4 ?_
      exact ih x1 (0 : Int32) (x3 + (1)) σ
    refine ag_iconst (q := 39) (v := 1) dX8_isNearBog_38 rfl (by decide) ?_
    refine ag_goto (q := 43) dX8_isNearBog_39 rfl ?_
    refine ag_istore_2 (q := 44) dX8_isNearBog_43 rfl (Nat.le_of_ble_eq_true rfl) rfl ?_
    refine ag_iinc_3 (q := 47) (d := (1)) dX8_isNearBog_44 rfl (Nat.le_of_ble_eq_true rfl) rfl (by decide) ?_
    refine ag_goto (q := 4) dX8_isNearBog_47 rfl ?_
    refine ag_kill_4 ?_
    exact ih x1 (1 : Int32) (x3 + (1)) σ
def J_X8_isNearBog (a1 : Int32) (σ : Sg) : Option Int32 :=
  (J_X8_isNearBog_b4   FU a1 (0 : Int32) (0 : Int32) σ)
set_option maxHeartbeats 4000000 in
theorem A_X8_isNearBog (K : KT) (a1 : Int32) (σ : Sg) : AG K mX8_isNearBog (fun a : Int32 => (some (.int a), NT, R0, σ)) (J_X8_isNearBog a1 σ) 0 [some (.ref 141), some (.int a1), none, none, none] [] σ := by
  unfold J_X8_isNearBog
  refine ag_iconst (q := 1) (v := 0) dX8_isNearBog_0 rfl (by decide) ?_
  refine ag_istore_2 (q := 2) dX8_isNearBog_1 rfl (Nat.le_of_ble_eq_true rfl) rfl ?_
  refine ag_iconst (q := 3) (v := 0) dX8_isNearBog_2 rfl (by decide) ?_
  refine ag_istore_3 (q := 4) dX8_isNearBog_3 rfl (Nat.le_of_ble_eq_true rfl) rfl ?_
  exact A_X8_isNearBog_b4 K   FU a1 (0 : Int32) (0 : Int32) σ
theorem C_X8_isNearBog (a1 : Int32) (σ : Sg) : ∀ r, J_X8_isNearBog a1 σ = some r → AMc yX8_isNearBog mX8_isNearBog [.ref 141, .int a1] NT R0 σ (some (.int r), NT, R0, σ) := fun r e => AMc.of (L := [some (.ref 141), some (.int a1), none, none, none]) (by decide) rfl (fun _ => rfl) (fun _ => Nat.le_of_ble_eq_true rfl) (Nat.le_refl _) (fun K => A_X8_isNearBog K a1 σ _ e)
def J_X8_wolf_b2  : Nat → Int32 → Sg → Option (Unit × Sg)
  | 0, _, _ => none
  | k + 1, x1, σ =>
    (if (σ 141 3) ≤ x1 then (some ((), σ)) else (if inb ((37 : Int32) + x1) 54 = true then (if (σ 157 ((37 : Int32) + x1).toNatClampNeg) = (36 : Int32) then (J_X8_wolf_b2   k (x1 + (1)) σ) else (if inb ((37 : Int32) + x1) 54 = true then (bd1 (J_X8_isNearBog (σ 157 ((37 : Int32) + x1).toNatClampNeg) σ) fun r34 => (if r34 = 0 then (J_X8_wolf_b2   k (x1 + (1)) σ) else (if inb ((37 : Int32) + x1) 54 = true then (some ((), (up σ 157 ((37 : Int32) + x1).toNatClampNeg (36 : Int32)))) else none))) else none)) else none))
set_option maxHeartbeats 4000000 in
theorem A_X8_wolf_b2 (K : KT)  : ∀ (k : Nat) (x1 : Int32) (σ : Sg), AG K mX8_wolf (fun a : Unit × Sg => (none, NT, R0, a.2)) (J_X8_wolf_b2   k x1 σ) 2 [some (.ref 141), some (.int x1)] [] σ := by
  intro k
  induction k with
  | zero => intro x1 σ; exact ag_none
  | succ k ih =>
    intro x1 σ
    rw [J_X8_wolf_b2]
    refine ag_iload_1 (q := 3) dX8_wolf_2 rfl ?_
    refine ag_aload_0 (q := 4) dX8_wolf_3 rfl ?_
    refine ag_getI (q := 7) dX8_wolf_4 rfl fl8_112 (by decide) (congrArg Prod.fst s_141) rfl ?_
    refine ag_icmp_ge (tgt := 58) (q := 10) dX8_wolf_7 rfl rfl ?_ ?_
    · exact ag_vret dX8_wolf_58 rfl rfl
    refine ag_aload_0 (q := 11) dX8_wolf_10 rfl ?_
    refine ag_getR (q := 14) dX8_wolf_11 rfl fl8_55 (by decide) (congrArg Prod.fst s_141) rfl r_141_31 ?_
    refine ag_bipush (q := 16) (v := 37) dX8_wolf_14 rfl (by decide) ?_
    refine ag_iload_1 (q := 17) dX8_wolf_16 rfl ?_
    refine ag_iadd (q := 18) dX8_wolf_17 rfl ?_
    refine ag_iald (q := 19) dX8_wolf_18 rfl (by decide) s_157 ?_
    refine ag_bipush (q := 21) (v := 36) dX8_wolf_19 rfl (by decide) ?_
    refine ag_icmp_eq (tgt := 52) (q := 24) dX8_wolf_21 rfl rfl ?_ ?_
    · refine ag_iinc_1 (q := 55) (d := (1)) dX8_wolf_52 rfl (Nat.le_of_ble_eq_true rfl) rfl (by decide) ?_
      refine ag_goto (q := 2) dX8_wolf_55 rfl ?_
      exact ih (x1 + (1)) σ
    refine ag_aload_0 (q := 25) dX8_wolf_24 rfl ?_
    refine ag_aload_0 (q := 26) dX8_wolf_25 rfl ?_
    refine ag_getR (q := 29) dX8_wolf_26 rfl fl8_55 (by decide) (congrArg Prod.fst s_141) rfl r_141_31 ?_
    refine ag_bipush (q := 31) (v := 37) dX8_wolf_29 rfl (by decide) ?_
    refine ag_iload_1 (q := 32) dX8_wolf_31 rfl ?_
    refine ag_iadd (q := 33) dX8_wolf_32 rfl ?_
    refine ag_iald (q := 34) dX8_wolf_33 rfl (by decide) s_157 ?_
    refine ag_callV_pI (q := 37) (av := [.int _]) (rest := []) dX8_wolf_34 rfl lk8_286 (C_X8_isNearBog (σ 157 ((37 : Int32) + x1).toNatClampNeg) _) (by decide) (Nat.le_of_ble_eq_true rfl) (by decide) (congrArg Prod.fst s_141) (by decide) (fun _ => rfl) (Nat.le_of_ble_eq_true rfl) rfl (fun r34 e34 => ?_)
    refine ag_if_eq (tgt := 52) (q := 40) dX8_wolf_37 rfl rfl ?_ ?_
    · refine ag_iinc_1 (q := 55) (d := (1)) dX8_wolf_52 rfl (Nat.le_of_ble_eq_true rfl) rfl (by decide) ?_
      refine ag_goto (q := 2) dX8_wolf_55 rfl ?_
      exact ih (x1 + (1)) σ
    refine ag_aload_0 (q := 41) dX8_wolf_40 rfl ?_
    refine ag_getR (q := 44) dX8_wolf_41 rfl fl8_55 (by decide) (congrArg Prod.fst s_141) rfl r_141_31 ?_
    refine ag_bipush (q := 46) (v := 37) dX8_wolf_44 rfl (by decide) ?_
    refine ag_iload_1 (q := 47) dX8_wolf_46 rfl ?_
    refine ag_iadd (q := 48) dX8_wolf_47 rfl ?_
    refine ag_bipush (q := 50) (v := 36) dX8_wolf_48 rfl (by decide) ?_
    refine ag_iast (q := 51) dX8_wolf_50 rfl (by decide) s_157 ?_
    exact ag_vret dX8_wolf_51 rfl rfl
def J_X8_wolf  (σ : Sg) : Option (Unit × Sg) :=
  (J_X8_wolf_b2   FU (0 : Int32) σ)
set_option maxHeartbeats 4000000 in
theorem A_X8_wolf (K : KT)  (σ : Sg) : AG K mX8_wolf (fun a : Unit × Sg => (none, NT, R0, a.2)) (J_X8_wolf  σ) 0 [some (.ref 141), none] [] σ := by
  unfold J_X8_wolf
  refine ag_iconst (q := 1) (v := 0) dX8_wolf_0 rfl (by decide) ?_
  refine ag_istore_1 (q := 2) dX8_wolf_1 rfl (Nat.le_of_ble_eq_true rfl) rfl ?_
  exact A_X8_wolf_b2 K   FU (0 : Int32) σ
theorem C_X8_wolf  (σ : Sg) : ∀ r s', J_X8_wolf  σ = some (r, s') → AMc yX8_wolf mX8_wolf [.ref 141] NT R0 σ (none, NT, R0, s') := fun r s' e => AMc.of (L := [some (.ref 141), none]) (by decide) rfl (fun _ => rfl) (fun _ => Nat.le_of_ble_eq_true rfl) (Nat.le_refl _) (fun K => A_X8_wolf K  σ _ e)
def J_X8_lowest_b5  : Nat → Int32 → Int32 → Int32 → Int32 → Int32 → Sg → Option Int32
  | 0, _, _, _, _, _, _ => none
  | k + 1, x0, x1, x2, x3, x4, σ =>
    (if x4 ≤ 0 then (if x2 = 0 then (if x3 = 0 then none else (some (x0 / x3))) else (if x3 = 0 then none else (some (x1 / x3)))) else (if x4 = 0 then none else (J_X8_lowest_b5   k x0 x1 x2 x4 (rmI x3 x4) σ)))
set_option maxHeartbeats 4000000 in
theorem A_X8_lowest_b5 (K : KT)  : ∀ (k : Nat) (x0 : Int32) (x1 : Int32) (x2 : Int32) (x3 : Int32) (x4 : Int32) (σ : Sg), AG K mX8_lowest (fun a : Int32 => (some (.int a), NT, R0, σ)) (J_X8_lowest_b5   k x0 x1 x2 x3 x4 σ) 5 [some (.int x0), some (.int x1), some (.int x2), some (.int x3), some (.int x4), none] [] σ := by
  intro k
  induction k with
  | zero => intro x0 x1 x2 x3 x4 σ; exact ag_none
  | succ k ih =>
    intro x0 x1 x2 x3 x4 σ
    rw [J_X8_lowest_b5]
    refine ag_iload_4 (q := 7) dX8_lowest_5 rfl ?_
    refine ag_if_le (tgt := 26) (q := 10) dX8_lowest_7 rfl rfl ?_ ?_
    · refine ag_iload_2 (q := 27) dX8_lowest_26 rfl ?_
      refine ag_if_ne (tgt := 34) (q := 30) dX8_lowest_27 rfl rfl ?_ ?_
      · refine ag_iload_1 (q := 35) dX8_lowest_34 rfl ?_
        refine ag_iload_3 (q := 36) dX8_lowest_35 rfl ?_
        refine ag_idiv (q := 37) dX8_lowest_36 rfl ?_
        exact ag_iret dX8_lowest_37 rfl rfl
      refine ag_iload_0 (q := 31) dX8_lowest_30 rfl ?_
      refine ag_goto (q := 35) dX8_lowest_31 rfl ?_
      refine ag_iload_3 (q := 36) dX8_lowest_35 rfl ?_
      refine ag_idiv (q := 37) dX8_lowest_36 rfl ?_
      exact ag_iret dX8_lowest_37 rfl rfl
    refine ag_iload_3 (q := 11) dX8_lowest_10 rfl ?_
    refine ag_iload_4 (q := 13) dX8_lowest_11 rfl ?_
    refine ag_irem (q := 14) dX8_lowest_13 rfl ?_
    refine ag_istore_5 (q := 16) dX8_lowest_14 rfl (Nat.le_of_ble_eq_true rfl) rfl ?_
    refine ag_iload_4 (q := 18) dX8_lowest_16 rfl ?_
    refine ag_istore_3 (q := 19) dX8_lowest_18 rfl (Nat.le_of_ble_eq_true rfl) rfl ?_
    refine ag_iload_5 (q := 21) dX8_lowest_19 rfl ?_
    refine ag_istore_4 (q := 23) dX8_lowest_21 rfl (Nat.le_of_ble_eq_true rfl) rfl ?_
    refine ag_goto (q := 5) dX8_lowest_23 rfl ?_
    refine ag_kill_5 ?_
    exact ih x0 x1 x2 x4 (rmI x3 x4) σ
def J_X8_lowest (a0 : Int32) (a1 : Int32) (a2 : Int32) (σ : Sg) : Option Int32 :=
  (J_X8_lowest_b5   FU a0 a1 a2 a0 a1 σ)
set_option maxHeartbeats 4000000 in
theorem A_X8_lowest (K : KT) (a0 : Int32) (a1 : Int32) (a2 : Int32) (σ : Sg) : AG K mX8_lowest (fun a : Int32 => (some (.int a), NT, R0, σ)) (J_X8_lowest a0 a1 a2 σ) 0 [some (.int a0), some (.int a1), some (.int a2), none, none, none] [] σ := by
  unfold J_X8_lowest
  refine ag_iload_0 (q := 1) dX8_lowest_0 rfl ?_
  refine ag_istore_3 (q := 2) dX8_lowest_1 rfl (Nat.le_of_ble_eq_true rfl) rfl ?_
  refine ag_iload_1 (q := 3) dX8_lowest_2 rfl ?_
  refine ag_istore_4 (q := 5) dX8_lowest_3 rfl (Nat.le_of_ble_eq_true rfl) rfl ?_
  exact A_X8_lowest_b5 K   FU a0 a1 a2 a0 a1 σ
theorem C_X8_lowest (a0 : Int32) (a1 : Int32) (a2 : Int32) (σ : Sg) : ∀ r, J_X8_lowest a0 a1 a2 σ = some r → AMc yX8_lowest mX8_lowest [.int a0, .int a1, .int a2] NT R0 σ (some (.int r), NT, R0, σ) := fun r e => AMc.of (L := [some (.int a0), some (.int a1), some (.int a2), none, none, none]) (by decide) rfl (fun _ => rfl) (fun _ => Nat.le_of_ble_eq_true rfl) (Nat.le_refl _) (fun K => A_X8_lowest K a0 a1 a2 σ _ e)
def J_X8_wolves_b132  (y88 : Int32 → Int32 → Int32 → Int32 → Int32 → Int32 → Int32 → Sg → Option (Int32 × Sg)) (y106 : Int32 → Int32 → Int32 → Int32 → Int32 → Int32 → Int32 → Int32 → Int32 → Sg → Option (Int32 × Sg)) (x1 : Int32) (x2 : Int32) (x3 : Int32) (x4 : Int32) (x5 : Int32) (x6 : Int32) (x7 : Int32) (x9 : Int32) (w0 : Int32) (w1 : Int32) (σ : Sg) : Option (Int32 × Sg) :=
  (bd2 (J_X8_grazes  σ) fun r136 s136 => (bd1 (J_X8_has x7 x9 s136) fun r143 => (if r143 = 0 then (bd2 (J_X8_nextDay  s136) fun r154 s154 => (y106 x1 x2 x3 x4 x5 x6 x7 (w1 * w0) (x9 + (1)) s154)) else (bd2 (J_X8_wolf  s136) fun r150 s150 => (bd2 (J_X8_nextDay  s150) fun r154 s154 => (y106 x1 x2 x3 x4 x5 x6 x7 (w1 * w0) (x9 + (1)) s154))))))
set_option maxHeartbeats 4000000 in
theorem A_X8_wolves_b132 (K : KT)  (y88 : Int32 → Int32 → Int32 → Int32 → Int32 → Int32 → Int32 → Sg → Option (Int32 × Sg)) (hy88 : ∀ (x1 : Int32) (x2 : Int32) (x3 : Int32) (x4 : Int32) (x5 : Int32) (x6 : Int32) (x7 : Int32) (σ : Sg), AG K mX8_wolves (fun a : Int32 × Sg => (some (.int a.1), NT, R0, a.2)) (y88 x1 x2 x3 x4 x5 x6 x7 σ) 88 [some (.ref 141), some (.int x1), some (.int x2), some (.int x3), some (.int x4), some (.int x5), some (.int x6), some (.int x7), none, none] [] σ) (y106 : Int32 → Int32 → Int32 → Int32 → Int32 → Int32 → Int32 → Int32 → Int32 → Sg → Option (Int32 × Sg)) (hy106 : ∀ (x1 : Int32) (x2 : Int32) (x3 : Int32) (x4 : Int32) (x5 : Int32) (x6 : Int32) (x7 : Int32) (x8 : Int32) (x9 : Int32) (σ : Sg), AG K mX8_wolves (fun a : Int32 × Sg => (some (.int a.1), NT, R0, a.2)) (y106 x1 x2 x3 x4 x5 x6 x7 x8 x9 σ) 106 [some (.ref 141), some (.int x1), some (.int x2), some (.int x3), some (.int x4), some (.int x5), some (.int x6), some (.int x7), some (.int x8), some (.int x9)] [] σ) (x1 : Int32) (x2 : Int32) (x3 : Int32) (x4 : Int32) (x5 : Int32) (x6 : Int32) (x7 : Int32) (x9 : Int32) (w0 : Int32) (w1 : Int32) (σ : Sg) : AG K mX8_wolves (fun a : Int32 × Sg => (some (.int a.1), NT, R0, a.2)) (J_X8_wolves_b132  y88 y106 x1 x2 x3 x4 x5 x6 x7 x9 w0 w1 σ) 132 [some (.ref 141), some (.int x1), some (.int x2), some (.int x3), some (.int x4), some (.int x5), some (.int x6), some (.int x7), none, some (.int x9)] [.int w0, .int w1] σ := by
  unfold J_X8_wolves_b132
  refine ag_imul (q := 133) dX8_wolves_132 rfl ?_
  refine ag_istore_8 (q := 135) dX8_wolves_133 rfl (Nat.le_of_ble_eq_true rfl) rfl ?_
  refine ag_aload_0 (q := 136) dX8_wolves_135 rfl ?_
  refine ag_callV_mU (q := 139) (av := []) (rest := []) dX8_wolves_136 rfl lk8_216 (C_X8_grazes  _) (by decide) (Nat.le_of_ble_eq_true rfl) (by decide) (congrArg Prod.fst s_141) (by decide) (fun _ => rfl) (Nat.le_of_ble_eq_true rfl) rfl (fun r136 s136 e136 => ?_)
  refine ag_iload_7 (q := 141) dX8_wolves_139 rfl ?_
  refine ag_iload_9 (q := 143) dX8_wolves_141 rfl ?_
  refine ag_callS_pI (q := 146) (av := [.int _, .int _]) (rest := []) dX8_wolves_143 rfl lk8_181 (C_X8_has x7 x9 _) (by decide) (Nat.le_of_ble_eq_true rfl) (fun _ => rfl) (Nat.le_of_ble_eq_true rfl) rfl (fun r143 e143 => ?_)
  refine ag_if_eq (tgt := 153) (q := 149) dX8_wolves_146 rfl rfl ?_ ?_
  · refine ag_aload_0 (q := 154) dX8_wolves_153 rfl ?_
    refine ag_callV_mU (q := 157) (av := []) (rest := []) dX8_wolves_154 rfl lk8_219 (C_X8_nextDay  _) (by decide) (Nat.le_of_ble_eq_true rfl) (by decide) (congrArg Prod.fst s_141) (by decide) (fun _ => rfl) (Nat.le_of_ble_eq_true rfl) rfl (fun r154 s154 e154 => ?_)
    refine ag_iinc_9 (q := 160) (d := (1)) dX8_wolves_157 rfl (Nat.le_of_ble_eq_true rfl) rfl (by decide) ?_
    refine ag_goto (q := 106) dX8_wolves_160 rfl ?_
    exact hy106 x1 x2 x3 x4 x5 x6 x7 (w1 * w0) (x9 + (1)) s154
  refine ag_aload_0 (q := 150) dX8_wolves_149 rfl ?_
  refine ag_callV_mU (q := 153) (av := []) (rest := []) dX8_wolves_150 rfl lk8_289 (C_X8_wolf  _) (by decide) (Nat.le_of_ble_eq_true rfl) (by decide) (congrArg Prod.fst s_141) (by decide) (fun _ => rfl) (Nat.le_of_ble_eq_true rfl) rfl (fun r150 s150 e150 => ?_)
  refine ag_aload_0 (q := 154) dX8_wolves_153 rfl ?_
  refine ag_callV_mU (q := 157) (av := []) (rest := []) dX8_wolves_154 rfl lk8_219 (C_X8_nextDay  _) (by decide) (Nat.le_of_ble_eq_true rfl) (by decide) (congrArg Prod.fst s_141) (by decide) (fun _ => rfl) (Nat.le_of_ble_eq_true rfl) rfl (fun r154 s154 e154 => ?_)
  refine ag_iinc_9 (q := 160) (d := (1)) dX8_wolves_157 rfl (Nat.le_of_ble_eq_true rfl) rfl (by decide) ?_
  refine ag_goto (q := 106) dX8_wolves_160 rfl ?_
  exact hy106 x1 x2 x3 x4 x5 x6 x7 (w1 * w0) (x9 + (1)) s154
def J_X8_wolves_b106  (y88 : Int32 → Int32 → Int32 → Int32 → Int32 → Int32 → Int32 → Sg → Option (Int32 × Sg)) : Nat → Int32 → Int32 → Int32 → Int32 → Int32 → Int32 → Int32 → Int32 → Int32 → Sg → Option (Int32 × Sg)
  | 0, _, _, _, _, _, _, _, _, _, _ => none
  | k + 1, x1, x2, x3, x4, x5, x6, x7, x8, x9, σ =>
    (if x2 ≤ x9 then (if inb ((37 : Int32) + x1) 54 = true then (if (σ 157 ((37 : Int32) + x1).toNatClampNeg) = (36 : Int32) then (y88 x1 x2 x3 x4 (x5 + (0 : Int32)) x6 (x7 + (1)) σ) else (y88 x1 x2 x3 x4 (x5 + x8) x6 (x7 + (1)) σ)) else none) else (bd1 (J_X8_has x7 x9 σ) fun r118 => (if r118 = 0 then (J_X8_wolves_b132  y88 (fun x1 x2 x3 x4 x5 x6 x7 x8 x9 σ => J_X8_wolves_b106  y88 k x1 x2 x3 x4 x5 x6 x7 x8 x9 σ) x1 x2 x3 x4 x5 x6 x7 x9 ((10 : Int32) - x3) x8 σ) else (J_X8_wolves_b132  y88 (fun x1 x2 x3 x4 x5 x6 x7 x8 x9 σ => J_X8_wolves_b106  y88 k x1 x2 x3 x4 x5 x6 x7 x8 x9 σ) x1 x2 x3 x4 x5 x6 x7 x9 x3 x8 σ))))
set_option maxHeartbeats 4000000 in
theorem A_X8_wolves_b106 (K : KT)  (y88 : Int32 → Int32 → Int32 → Int32 → Int32 → Int32 → Int32 → Sg → Option (Int32 × Sg)) (hy88 : ∀ (x1 : Int32) (x2 : Int32) (x3 : Int32) (x4 : Int32) (x5 : Int32) (x6 : Int32) (x7 : Int32) (σ : Sg), AG K mX8_wolves (fun a : Int32 × Sg => (some (.int a.1), NT, R0, a.2)) (y88 x1 x2 x3 x4 x5 x6 x7 σ) 88 [some (.ref 141), some (.int x1), some (.int x2), some (.int x3), some (.int x4), some (.int x5), some (.int x6), some (.int x7), none, none] [] σ) : ∀ (k : Nat) (x1 : Int32) (x2 : Int32) (x3 : Int32) (x4 : Int32) (x5 : Int32) (x6 : Int32) (x7 : Int32) (x8 : Int32) (x9 : Int32) (σ : Sg), AG K mX8_wolves (fun a : Int32 × Sg => (some (.int a.1), NT, R0, a.2)) (J_X8_wolves_b106  y88 k x1 x2 x3 x4 x5 x6 x7 x8 x9 σ) 106 [some (.ref 141), some (.int x1), some (.int x2), some (.int x3), some (.int x4), some (.int x5), some (.int x6), some (.int x7), some (.int x8), some (.int x9)] [] σ := by
  intro k
  induction k with
  | zero => intro x1 x2 x3 x4 x5 x6 x7 x8 x9 σ; exact ag_none
  | succ k ih =>
    intro x1 x2 x3 x4 x5 x6 x7 x8 x9 σ
    rw [J_X8_wolves_b106]
    refine ag_iload_9 (q := 108) dX8_wolves_106 rfl ?_
    refine ag_iload_2 (q := 109) dX8_wolves_108 rfl ?_
    refine ag_icmp_ge (tgt := 163) (q := 112) dX8_wolves_109 rfl rfl ?_ ?_
    · refine ag_iload_5 (q := 165) dX8_wolves_163 rfl ?_
      refine ag_aload_0 (q := 166) dX8_wolves_165 rfl ?_
      refine ag_getR (q := 169) dX8_wolves_166 rfl fl8_55 (by decide) (congrArg Prod.fst s_141) rfl r_141_31 ?_
      refine ag_bipush (q := 171) (v := 37) dX8_wolves_169 rfl (by decide) ?_
      refine ag_iload_1 (q := 172) dX8_wolves_171 rfl ?_
      refine ag_iadd (q := 173) dX8_wolves_172 rfl ?_
      refine ag_iald (q := 174) dX8_wolves_173 rfl (by decide) s_157 ?_
      refine ag_bipush (q := 176) (v := 36) dX8_wolves_174 rfl (by decide) ?_
      refine ag_icmp_eq (tgt := 184) (q := 179) dX8_wolves_176 rfl rfl ?_ ?_
      · refine ag_iconst (q := 185) (v := 0) dX8_wolves_184 rfl (by decide) ?_
        refine ag_iadd (q := 186) dX8_wolves_185 rfl ?_
        refine ag_istore_5 (q := 188) dX8_wolves_186 rfl (Nat.le_of_ble_eq_true rfl) rfl ?_
        refine ag_iinc_7 (q := 191) (d := (1)) dX8_wolves_188 rfl (Nat.le_of_ble_eq_true rfl) rfl (by decide) ?_
        refine ag_goto (q := 88) dX8_wolves_191 rfl ?_
        refine ag_kill_8 ?_
        refine ag_kill_9 ?_
        exact hy88 x1 x2 x3 x4 (x5 + (0 : Int32)) x6 (x7 + (1)) σ
      refine ag_iload_8 (q := 181) dX8_wolves_179 rfl ?_
      refine ag_goto (q := 185) dX8_wolves_181 rfl ?_
      refine ag_iadd (q := 186) dX8_wolves_185 rfl ?_
      refine ag_istore_5 (q := 188) dX8_wolves_186 rfl (Nat.le_of_ble_eq_true rfl) rfl ?_
      refine ag_iinc_7 (q := 191) (d := (1)) dX8_wolves_188 rfl (Nat.le_of_ble_eq_true rfl) rfl (by decide) ?_
      refine ag_goto (q := 88) dX8_wolves_191 rfl ?_
      refine ag_kill_8 ?_
      refine ag_kill_9 ?_
      exact hy88 x1 x2 x3 x4 (x5 + x8) x6 (x7 + (1)) σ
    refine ag_iload_8 (q := 114) dX8_wolves_112 rfl ?_
    refine ag_iload_7 (q := 116) dX8_wolves_114 rfl ?_
    refine ag_iload_9 (q := 118) dX8_wolves_116 rfl ?_
    refine ag_callS_pI (q := 121) (av := [.int _, .int _]) (rest := [.int _]) dX8_wolves_118 rfl lk8_181 (C_X8_has x7 x9 _) (by decide) (Nat.le_of_ble_eq_true rfl) (fun _ => rfl) (Nat.le_of_ble_eq_true rfl) rfl (fun r118 e118 => ?_)
    refine ag_if_eq (tgt := 128) (q := 124) dX8_wolves_121 rfl rfl ?_ ?_
    · refine ag_bipush (q := 130) (v := 10) dX8_wolves_128 rfl (by decide) ?_
      refine ag_iload_3 (q := 131) dX8_wolves_130 rfl ?_
      refine ag_isub (q := 132) dX8_wolves_131 rfl ?_
      refine ag_kill_8 ?_
      exact A_X8_wolves_b132 K  y88 hy88 (fun x1 x2 x3 x4 x5 x6 x7 x8 x9 σ => J_X8_wolves_b106  y88 k x1 x2 x3 x4 x5 x6 x7 x8 x9 σ) (fun x1 x2 x3 x4 x5 x6 x7 x8 x9 σ => ih x1 x2 x3 x4 x5 x6 x7 x8 x9 σ) x1 x2 x3 x4 x5 x6 x7 x9 ((10 : Int32) - x3) x8 σ
    refine ag_iload_3 (q := 125) dX8_wolves_124 rfl ?_
    refine ag_goto (q := 132) dX8_wolves_125 rfl ?_
    refine ag_kill_8 ?_
    exact A_X8_wolves_b132 K  y88 hy88 (fun x1 x2 x3 x4 x5 x6 x7 x8 x9 σ => J_X8_wolves_b106  y88 k x1 x2 x3 x4 x5 x6 x7 x8 x9 σ) (fun x1 x2 x3 x4 x5 x6 x7 x8 x9 σ => ih x1 x2 x3 x4 x5 x6 x7 x8 x9 σ) x1 x2 x3 x4 x5 x6 x7 x9 x3 x8 σ
def J_X8_wolves_b88  : Nat → Int32 → Int32 → Int32 → Int32 → Int32 → Int32 → Int32 → Sg → Option (Int32 × Sg)
  | 0, _, _, _, _, _, _, _, _ => none
  | k + 1, x1, x2, x3, x4, x5, x6, x7, σ =>
    (if ((1 : Int32) <<< (x2 &&& 31)) ≤ x7 then (bd1 (J_X8_lowest x5 x6 x4 σ) fun r200 => (some (r200, σ))) else (bd2 (J_X8_asItIs  σ) fun r100 s100 => (J_X8_wolves_b106  (fun x1 x2 x3 x4 x5 x6 x7 σ => J_X8_wolves_b88   k x1 x2 x3 x4 x5 x6 x7 σ) FU x1 x2 x3 x4 x5 x6 x7 (1 : Int32) (0 : Int32) s100)))
set_option maxHeartbeats 4000000 in
theorem A_X8_wolves_b88 (K : KT)  : ∀ (k : Nat) (x1 : Int32) (x2 : Int32) (x3 : Int32) (x4 : Int32) (x5 : Int32) (x6 : Int32) (x7 : Int32) (σ : Sg), AG K mX8_wolves (fun a : Int32 × Sg => (some (.int a.1), NT, R0, a.2)) (J_X8_wolves_b88   k x1 x2 x3 x4 x5 x6 x7 σ) 88 [some (.ref 141), some (.int x1), some (.int x2), some (.int x3), some (.int x4), some (.int x5), some (.int x6), some (.int x7), none, none] [] σ := by
  intro k
  induction k with
  | zero => intro x1 x2 x3 x4 x5 x6 x7 σ; exact ag_none
  | succ k ih =>
    intro x1 x2 x3 x4 x5 x6 x7 σ
    rw [J_X8_wolves_b88]
    refine ag_iload_7 (q := 90) dX8_wolves_88 rfl ?_
    refine ag_iconst (q := 91) (v := 1) dX8_wolves_90 rfl (by decide) ?_
    refine ag_iload_2 (q := 92) dX8_wolves_91 rfl ?_
    refine ag_ishl (q := 93) dX8_wolves_92 rfl ?_
    refine ag_icmp_ge (tgt := 194) (q := 96) dX8_wolves_93 rfl rfl ?_ ?_
    · refine ag_iload_5 (q := 196) dX8_wolves_194 rfl ?_
      refine ag_iload_6 (q := 198) dX8_wolves_196 rfl ?_
      refine ag_iload_4 (q := 200) dX8_wolves_198 rfl ?_
      refine ag_callS_pI (q := 203) (av := [.int _, .int _, .int _]) (rest := []) dX8_wolves_200 rfl lk8_292 (C_X8_lowest x5 x6 x4 _) (by decide) (Nat.le_of_ble_eq_true rfl) (fun _ => rfl) (Nat.le_of_ble_eq_true rfl) rfl (fun r200 e200 => ?_)
      exact ag_iret dX8_wolves_203 rfl rfl
    refine ag_iconst (q := 97) (v := 1) dX8_wolves_96 rfl (by decide) ?_
    refine ag_istore_8 (q := 99) dX8_wolves_97 rfl (Nat.le_of_ble_eq_true rfl) rfl ?_
    refine ag_aload_0 (q := 100) dX8_wolves_99 rfl ?_
    refine ag_callV_mU (q := 103) (av := []) (rest := []) dX8_wolves_100 rfl lk8_228 (C_X8_asItIs  _) (by decide) (Nat.le_of_ble_eq_true rfl) (by decide) (congrArg Prod.fst s_141) (by decide) (fun _ => rfl) (Nat.le_of_ble_eq_true rfl) rfl (fun r100 s100 e100 => ?_)
    refine ag_iconst (q := 104) (v := 0) dX8_wolves_103 rfl (by decide) ?_
    refine ag_istore_9 (q := 106) dX8_wolves_104 rfl (Nat.le_of_ble_eq_true rfl) rfl ?_
    exact A_X8_wolves_b106 K  (fun x1 x2 x3 x4 x5 x6 x7 σ => J_X8_wolves_b88   k x1 x2 x3 x4 x5 x6 x7 σ) (fun x1 x2 x3 x4 x5 x6 x7 σ => ih x1 x2 x3 x4 x5 x6 x7 σ) FU x1 x2 x3 x4 x5 x6 x7 (1 : Int32) (0 : Int32) s100
def J_X8_wolves_b66  : Nat → Int32 → Int32 → Int32 → Int32 → Int32 → Int32 → Int32 → Sg → Option (Int32 × Sg)
  | 0, _, _, _, _, _, _, _, _ => none
  | k + 1, x1, x2, x3, x4, x5, x6, x7, σ =>
    (if x2 ≤ x7 then (J_X8_wolves_b88   FU x1 x2 x3 x4 x5 x6 (0 : Int32) σ) else (J_X8_wolves_b66   k x1 x2 x3 x4 x5 (x6 * (10 : Int32)) (x7 + (1)) σ))
set_option maxHeartbeats 4000000 in
theorem A_X8_wolves_b66 (K : KT)  : ∀ (k : Nat) (x1 : Int32) (x2 : Int32) (x3 : Int32) (x4 : Int32) (x5 : Int32) (x6 : Int32) (x7 : Int32) (σ : Sg), AG K mX8_wolves (fun a : Int32 × Sg => (some (.int a.1), NT, R0, a.2)) (J_X8_wolves_b66   k x1 x2 x3 x4 x5 x6 x7 σ) 66 [some (.ref 141), some (.int x1), some (.int x2), some (.int x3), some (.int x4), some (.int x5), some (.int x6), some (.int x7), none, none] [] σ := by
  intro k
  induction k with
  | zero => intro x1 x2 x3 x4 x5 x6 x7 σ; exact ag_none
  | succ k ih =>
    intro x1 x2 x3 x4 x5 x6 x7 σ
    rw [J_X8_wolves_b66]
    refine ag_iload_7 (q := 68) dX8_wolves_66 rfl ?_
    refine ag_iload_2 (q := 69) dX8_wolves_68 rfl ?_
    refine ag_icmp_ge (tgt := 85) (q := 72) dX8_wolves_69 rfl rfl ?_ ?_
    · refine ag_iconst (q := 86) (v := 0) dX8_wolves_85 rfl (by decide) ?_
      refine ag_istore_7 (q := 88) dX8_wolves_86 rfl (Nat.le_of_ble_eq_true rfl) rfl ?_
      exact A_X8_wolves_b88 K   FU x1 x2 x3 x4 x5 x6 (0 : Int32) σ
    refine ag_iload_6 (q := 74) dX8_wolves_72 rfl ?_
    refine ag_bipush (q := 76) (v := 10) dX8_wolves_74 rfl (by decide) ?_
    refine ag_imul (q := 77) dX8_wolves_76 rfl ?_
    refine ag_istore_6 (q := 79) dX8_wolves_77 rfl (Nat.le_of_ble_eq_true rfl) rfl ?_
    refine ag_iinc_7 (q := 82) (d := (1)) dX8_wolves_79 rfl (Nat.le_of_ble_eq_true rfl) rfl (by decide) ?_
    refine ag_goto (q := 66) dX8_wolves_82 rfl ?_
    exact ih x1 x2 x3 x4 x5 (x6 * (10 : Int32)) (x7 + (1)) σ
def J_X8_wolves (a1 : Int32) (a2 : Int32) (a3 : Int32) (a4 : Int32) (σ : Sg) : Option (Int32 × Sg) :=
  (bd1 (J_X8_isBeast a1 σ) fun r2 => (if r2 = 0 then (some ((-1 : Int32), σ)) else (bd1 (J_X8_in a2 (0 : Int32) (8 : Int32) σ) fun r12 => (if r12 = 0 then (some ((-1 : Int32), σ)) else (bd1 (J_X8_in a3 (0 : Int32) (10 : Int32) σ) fun r22 => (if r22 = 0 then (some ((-1 : Int32), σ)) else (bd1 (J_X8_in a4 (0 : Int32) (1 : Int32) σ) fun r32 => (if r32 = 0 then (some ((-1 : Int32), σ)) else (if inb ((37 : Int32) + a1) 54 = true then (if (σ 146 ((37 : Int32) + a1).toNatClampNeg) = (36 : Int32) then (some ((-2 : Int32), σ)) else (J_X8_wolves_b66   FU a1 a2 a3 a4 (0 : Int32) (1 : Int32) (0 : Int32) σ)) else none)))))))))
set_option maxHeartbeats 4000000 in
theorem A_X8_wolves (K : KT) (a1 : Int32) (a2 : Int32) (a3 : Int32) (a4 : Int32) (σ : Sg) : AG K mX8_wolves (fun a : Int32 × Sg => (some (.int a.1), NT, R0, a.2)) (J_X8_wolves a1 a2 a3 a4 σ) 0 [some (.ref 141), some (.int a1), some (.int a2), some (.int a3), some (.int a4), none, none, none, none, none] [] σ := by
  unfold J_X8_wolves
  refine ag_aload_0 (q := 1) dX8_wolves_0 rfl ?_
  refine ag_iload_1 (q := 2) dX8_wolves_1 rfl ?_
  refine ag_callV_pI (q := 5) (av := [.int _]) (rest := []) dX8_wolves_2 rfl lk8_231 (C_X8_isBeast a1 _) (by decide) (Nat.le_of_ble_eq_true rfl) (by decide) (congrArg Prod.fst s_141) (by decide) (fun _ => rfl) (Nat.le_of_ble_eq_true rfl) rfl (fun r2 e2 => ?_)
  refine ag_if_eq (tgt := 38) (q := 8) dX8_wolves_5 rfl rfl ?_ ?_
  · refine ag_iconst (q := 39) (v := -1) dX8_wolves_38 rfl (by decide) ?_
    exact ag_iret dX8_wolves_39 rfl rfl
  refine ag_iload_2 (q := 9) dX8_wolves_8 rfl ?_
  refine ag_iconst (q := 10) (v := 0) dX8_wolves_9 rfl (by decide) ?_
  refine ag_bipush (q := 12) (v := 8) dX8_wolves_10 rfl (by decide) ?_
  refine ag_callS_pI (q := 15) (av := [.int _, .int _, .int _]) (rest := []) dX8_wolves_12 rfl lk8_115 (C_X8_in a2 (0 : Int32) (8 : Int32) _) (by decide) (Nat.le_of_ble_eq_true rfl) (fun _ => rfl) (Nat.le_of_ble_eq_true rfl) rfl (fun r12 e12 => ?_)
  refine ag_if_eq (tgt := 38) (q := 18) dX8_wolves_15 rfl rfl ?_ ?_
  · refine ag_iconst (q := 39) (v := -1) dX8_wolves_38 rfl (by decide) ?_
    exact ag_iret dX8_wolves_39 rfl rfl
  refine ag_iload_3 (q := 19) dX8_wolves_18 rfl ?_
  refine ag_iconst (q := 20) (v := 0) dX8_wolves_19 rfl (by decide) ?_
  refine ag_bipush (q := 22) (v := 10) dX8_wolves_20 rfl (by decide) ?_
  refine ag_callS_pI (q := 25) (av := [.int _, .int _, .int _]) (rest := []) dX8_wolves_22 rfl lk8_115 (C_X8_in a3 (0 : Int32) (10 : Int32) _) (by decide) (Nat.le_of_ble_eq_true rfl) (fun _ => rfl) (Nat.le_of_ble_eq_true rfl) rfl (fun r22 e22 => ?_)
  refine ag_if_eq (tgt := 38) (q := 28) dX8_wolves_25 rfl rfl ?_ ?_
  · refine ag_iconst (q := 39) (v := -1) dX8_wolves_38 rfl (by decide) ?_
    exact ag_iret dX8_wolves_39 rfl rfl
  refine ag_iload_4 (q := 30) dX8_wolves_28 rfl ?_
  refine ag_iconst (q := 31) (v := 0) dX8_wolves_30 rfl (by decide) ?_
  refine ag_iconst (q := 32) (v := 1) dX8_wolves_31 rfl (by decide) ?_
  refine ag_callS_pI (q := 35) (av := [.int _, .int _, .int _]) (rest := []) dX8_wolves_32 rfl lk8_115 (C_X8_in a4 (0 : Int32) (1 : Int32) _) (by decide) (Nat.le_of_ble_eq_true rfl) (fun _ => rfl) (Nat.le_of_ble_eq_true rfl) rfl (fun r32 e32 => ?_)
  refine ag_if_ne (tgt := 40) (q := 38) dX8_wolves_35 rfl rfl ?_ ?_
  · refine ag_aload_0 (q := 41) dX8_wolves_40 rfl ?_
    refine ag_getR (q := 44) dX8_wolves_41 rfl fl8_22 (by decide) (congrArg Prod.fst s_141) rfl r_141_10 ?_
    refine ag_bipush (q := 46) (v := 37) dX8_wolves_44 rfl (by decide) ?_
    refine ag_iload_1 (q := 47) dX8_wolves_46 rfl ?_
    refine ag_iadd (q := 48) dX8_wolves_47 rfl ?_
    refine ag_iald (q := 49) dX8_wolves_48 rfl (by decide) s_146 ?_
    refine ag_bipush (q := 51) (v := 36) dX8_wolves_49 rfl (by decide) ?_
    refine ag_icmp_ne (tgt := 57) (q := 54) dX8_wolves_51 rfl rfl ?_ ?_
    · refine ag_iconst (q := 58) (v := 0) dX8_wolves_57 rfl (by decide) ?_
      refine ag_istore_5 (q := 60) dX8_wolves_58 rfl (Nat.le_of_ble_eq_true rfl) rfl ?_
      refine ag_iconst (q := 61) (v := 1) dX8_wolves_60 rfl (by decide) ?_
      refine ag_istore_6 (q := 63) dX8_wolves_61 rfl (Nat.le_of_ble_eq_true rfl) rfl ?_
      refine ag_iconst (q := 64) (v := 0) dX8_wolves_63 rfl (by decide) ?_
      refine ag_istore_7 (q := 66) dX8_wolves_64 rfl (Nat.le_of_ble_eq_true rfl) rfl ?_
      exact A_X8_wolves_b66 K   FU a1 a2 a3 a4 (0 : Int32) (1 : Int32) (0 : Int32) σ
    refine ag_bipush (q := 56) (v := -2) dX8_wolves_54 rfl (by decide) ?_
    exact ag_iret dX8_wolves_56 rfl rfl
  refine ag_iconst (q := 39) (v := -1) dX8_wolves_38 rfl (by decide) ?_
  exact ag_iret dX8_wolves_39 rfl rfl
theorem C_X8_wolves (a1 : Int32) (a2 : Int32) (a3 : Int32) (a4 : Int32) (σ : Sg) : ∀ r s', J_X8_wolves a1 a2 a3 a4 σ = some (r, s') → AMc yX8_wolves mX8_wolves [.ref 141, .int a1, .int a2, .int a3, .int a4] NT R0 σ (some (.int r), NT, R0, s') := fun r s' e => AMc.of (L := [some (.ref 141), some (.int a1), some (.int a2), some (.int a3), some (.int a4), none, none, none, none, none]) (by decide) rfl (fun _ => rfl) (fun _ => Nat.le_of_ble_eq_true rfl) (Nat.le_refl _) (fun K => A_X8_wolves K a1 a2 a3 a4 σ _ e)
def J_X8_season_b131  (x3 : Int32) (σ : Sg) : Option (Int32 × Sg) :=
  (if x3 = 0 then (bd1 (J_X8_worth  σ) fun r138 => (some (((100 : Int32) + r138), σ))) else (bd1 (J_X8_onMeadow (0 : Int32) σ) fun r147 => (bd1 (J_X8_onMeadow (1 : Int32) σ) fun r152 => (some ((r147 + r152), σ)))))
set_option maxHeartbeats 4000000 in
theorem A_X8_season_b131 (K : KT)  (x3 : Int32) (σ : Sg) : AG K mX8_season (fun a : Int32 × Sg => (some (.int a.1), NT, R0, a.2)) (J_X8_season_b131   x3 σ) 131 [some (.ref 141), none, none, some (.int x3), none, none, none, none, none] [] σ := by
  unfold J_X8_season_b131
  refine ag_iload_3 (q := 132) dX8_season_131 rfl ?_
  refine ag_if_ne (tgt := 145) (q := 135) dX8_season_132 rfl rfl ?_ ?_
  · refine ag_aload_0 (q := 146) dX8_season_145 rfl ?_
    refine ag_iconst (q := 147) (v := 0) dX8_season_146 rfl (by decide) ?_
    refine ag_callV_pI (q := 150) (av := [.int _]) (rest := []) dX8_season_147 rfl lk8_267 (C_X8_onMeadow (0 : Int32) _) (by decide) (Nat.le_of_ble_eq_true rfl) (by decide) (congrArg Prod.fst s_141) (by decide) (fun _ => rfl) (Nat.le_of_ble_eq_true rfl) rfl (fun r147 e147 => ?_)
    refine ag_aload_0 (q := 151) dX8_season_150 rfl ?_
    refine ag_iconst (q := 152) (v := 1) dX8_season_151 rfl (by decide) ?_
    refine ag_callV_pI (q := 155) (av := [.int _]) (rest := [.int _]) dX8_season_152 rfl lk8_267 (C_X8_onMeadow (1 : Int32) _) (by decide) (Nat.le_of_ble_eq_true rfl) (by decide) (congrArg Prod.fst s_141) (by decide) (fun _ => rfl) (Nat.le_of_ble_eq_true rfl) rfl (fun r152 e152 => ?_)
    refine ag_iadd (q := 156) dX8_season_155 rfl ?_
    exact ag_iret dX8_season_156 rfl rfl
  refine ag_bipush (q := 137) (v := 100) dX8_season_135 rfl (by decide) ?_
  refine ag_aload_0 (q := 138) dX8_season_137 rfl ?_
  refine ag_callV_pI (q := 141) (av := []) (rest := [.int _]) dX8_season_138 rfl lk8_273 (C_X8_worth  _) (by decide) (Nat.le_of_ble_eq_true rfl) (by decide) (congrArg Prod.fst s_141) (by decide) (fun _ => rfl) (Nat.le_of_ble_eq_true rfl) rfl (fun r138 e138 => ?_)
  refine ag_iadd (q := 142) dX8_season_141 rfl ?_
  refine ag_goto (q := 156) dX8_season_142 rfl ?_
  exact ag_iret dX8_season_156 rfl rfl
def J_X8_season_b39  : Nat → Int32 → Int32 → Int32 → Int32 → Sg → Option (Int32 × Sg)
  | 0, _, _, _, _, _ => none
  | k + 1, x1, x2, x3, x4, σ =>
    (if x2 ≤ x4 then (J_X8_season_b131   x3 σ) else (bd1 (J_X8_lost  σ) fun r46 => (if r46 = 0 then (if (σ 141 3) = 0 then none else (bd2 (J_X8_canDrive (((10 : Int32) * (rmI (((rmL (((((7919 : Int64) * (x1.toInt64)) + ((6151 : Int64) * (x4.toInt64))) + (1 : Int64)) * ((((7919 : Int64) * (x1.toInt64)) + ((6151 : Int64) * (x4.toInt64))) + (1 : Int64))) (65521 : Int64)).toInt32) / (8 : Int32)) (σ 141 3))) + (rmI (((rmL (((((7919 : Int64) * (x1.toInt64)) + ((6151 : Int64) * (x4.toInt64))) + (1 : Int64)) * ((((7919 : Int64) * (x1.toInt64)) + ((6151 : Int64) * (x4.toInt64))) + (1 : Int64))) (65521 : Int64)).toInt32) / (64 : Int32)) (4 : Int32))) σ) fun r109 s109 => (if r109 = 0 then (bd2 (J_X8_goesBy (99 : Int32) s109) fun r122 s122 => (J_X8_season_b39   k x1 x2 x3 (x4 + (1)) s122)) else (bd2 (J_X8_goesBy (((10 : Int32) * (rmI (((rmL (((((7919 : Int64) * (x1.toInt64)) + ((6151 : Int64) * (x4.toInt64))) + (1 : Int64)) * ((((7919 : Int64) * (x1.toInt64)) + ((6151 : Int64) * (x4.toInt64))) + (1 : Int64))) (65521 : Int64)).toInt32) / (8 : Int32)) (σ 141 3))) + (rmI (((rmL (((((7919 : Int64) * (x1.toInt64)) + ((6151 : Int64) * (x4.toInt64))) + (1 : Int64)) * ((((7919 : Int64) * (x1.toInt64)) + ((6151 : Int64) * (x4.toInt64))) + (1 : Int64))) (65521 : Int64)).toInt32) / (64 : Int32)) (4 : Int32))) s109) fun r122 s122 => (J_X8_season_b39   k x1 x2 x3 (x4 + (1)) s122))))) else (J_X8_season_b131   x3 σ))))
set_option maxHeartbeats 4000000 in
theorem A_X8_season_b39 (K : KT)  : ∀ (k : Nat) (x1 : Int32) (x2 : Int32) (x3 : Int32) (x4 : Int32) (σ : Sg), AG K mX8_season (fun a : Int32 × Sg => (some (.int a.1), NT, R0, a.2)) (J_X8_season_b39   k x1 x2 x3 x4 σ) 39 [some (.ref 141), some (.int x1), some (.int x2), some (.int x3), some (.int x4), none, none, none, none] [] σ := by
  intro k
  induction k with
  | zero => intro x1 x2 x3 x4 σ; exact ag_none
  | succ k ih =>
    intro x1 x2 x3 x4 σ
    rw [J_X8_season_b39]
    refine ag_iload_4 (q := 41) dX8_season_39 rfl ?_
    refine ag_iload_2 (q := 42) dX8_season_41 rfl ?_
    refine ag_icmp_ge (tgt := 131) (q := 45) dX8_season_42 rfl rfl ?_ ?_
    · refine ag_kill_1 ?_
      refine ag_kill_2 ?_
      refine ag_kill_4 ?_
      exact A_X8_season_b131 K   x3 σ
    refine ag_aload_0 (q := 46) dX8_season_45 rfl ?_
    refine ag_callV_pI (q := 49) (av := []) (rest := []) dX8_season_46 rfl lk8_222 (C_X8_lost  _) (by decide) (Nat.le_of_ble_eq_true rfl) (by decide) (congrArg Prod.fst s_141) (by decide) (fun _ => rfl) (Nat.le_of_ble_eq_true rfl) rfl (fun r46 e46 => ?_)
    refine ag_if_ne (tgt := 131) (q := 52) dX8_season_49 rfl rfl ?_ ?_
    · refine ag_kill_1 ?_
      refine ag_kill_2 ?_
      refine ag_kill_4 ?_
      exact A_X8_season_b131 K   x3 σ
    refine ag_ldc2 (q := 55) dX8_season_52 rfl kc8_296 ?_
    refine ag_iload_1 (q := 56) dX8_season_55 rfl ?_
    refine ag_i2l (q := 57) dX8_season_56 rfl ?_
    refine ag_lmul (q := 58) dX8_season_57 rfl ?_
    refine ag_ldc2 (q := 61) dX8_season_58 rfl kc8_298 ?_
    refine ag_iload_4 (q := 63) dX8_season_61 rfl ?_
    refine ag_i2l (q := 64) dX8_season_63 rfl ?_
    refine ag_lmul (q := 65) dX8_season_64 rfl ?_
    refine ag_ladd (q := 66) dX8_season_65 rfl ?_
    refine ag_lconst (q := 67) (v := 1) dX8_season_66 rfl (by decide) ?_
    refine ag_ladd (q := 68) dX8_season_67 rfl ?_
    refine ag_lstore_5 (q := 70) dX8_season_68 rfl (Nat.le_of_ble_eq_true rfl) rfl ?_
    refine ag_lload_5 (q := 72) dX8_season_70 rfl ?_
    refine ag_lload_5 (q := 74) dX8_season_72 rfl ?_
    refine ag_lmul (q := 75) dX8_season_74 rfl ?_
    refine ag_ldc2 (q := 78) dX8_season_75 rfl kc8_300 ?_
    refine ag_lremK (q := 79) dX8_season_78 rfl (by decide) ?_
    refine ag_l2i (q := 80) dX8_season_79 rfl ?_
    refine ag_istore_7 (q := 82) dX8_season_80 rfl (Nat.le_of_ble_eq_true rfl) rfl ?_
    refine ag_bipush (q := 84) (v := 10) dX8_season_82 rfl (by decide) ?_
    refine ag_iload_7 (q := 86) dX8_season_84 rfl ?_
    refine ag_bipush (q := 88) (v := 8) dX8_season_86 rfl (by decide) ?_
    refine ag_idivK (q := 89) dX8_season_88 rfl (by decide) ?_
    refine ag_aload_0 (q := 90) dX8_season_89 rfl ?_
    refine ag_getI (q := 93) dX8_season_90 rfl fl8_112 (by decide) (congrArg Prod.fst s_141) rfl ?_
    refine ag_irem (q := 94) dX8_season_93 rfl ?_
    refine ag_imul (q := 95) dX8_season_94 rfl ?_
    refine ag_iload_7 (q := 97) dX8_season_95 rfl ?_
    refine ag_bipush (q := 99) (v := 64) dX8_season_97 rfl (by decide) ?_
    refine ag_idivK (q := 100) dX8_season_99 rfl (by decide) ?_
    refine ag_iconst (q := 101) (v := 4) dX8_season_100 rfl (by decide) ?_
    refine ag_iremK (q := 102) dX8_season_101 rfl (by decide) ?_
    refine ag_iadd (q := 103) dX8_season_102 rfl ?_
    refine ag_istore_8 (q := 105) dX8_season_103 rfl (Nat.le_of_ble_eq_true rfl) rfl ?_
    refine ag_aload_0 (q := 106) dX8_season_105 rfl ?_
    refine ag_aload_0 (q := 107) dX8_season_106 rfl ?_
    refine ag_iload_8 (q := 109) dX8_season_107 rfl ?_
    refine ag_callV_mI (q := 112) (av := [.int _]) (rest := [.ref _]) dX8_season_109 rfl lk8_243 (C_X8_canDrive (((10 : Int32) * (rmI (((rmL (((((7919 : Int64) * (x1.toInt64)) + ((6151 : Int64) * (x4.toInt64))) + (1 : Int64)) * ((((7919 : Int64) * (x1.toInt64)) + ((6151 : Int64) * (x4.toInt64))) + (1 : Int64))) (65521 : Int64)).toInt32) / (8 : Int32)) (σ 141 3))) + (rmI (((rmL (((((7919 : Int64) * (x1.toInt64)) + ((6151 : Int64) * (x4.toInt64))) + (1 : Int64)) * ((((7919 : Int64) * (x1.toInt64)) + ((6151 : Int64) * (x4.toInt64))) + (1 : Int64))) (65521 : Int64)).toInt32) / (64 : Int32)) (4 : Int32))) _) (by decide) (Nat.le_of_ble_eq_true rfl) (by decide) (congrArg Prod.fst s_141) (by decide) (fun _ => rfl) (Nat.le_of_ble_eq_true rfl) rfl (fun r109 s109 e109 => ?_)
    refine ag_if_eq (tgt := 120) (q := 115) dX8_season_112 rfl rfl ?_ ?_
    · refine ag_bipush (q := 122) (v := 99) dX8_season_120 rfl (by decide) ?_
      refine ag_callV_mU (q := 125) (av := [.int _]) (rest := []) dX8_season_122 rfl lk8_240 (C_X8_goesBy (99 : Int32) _) (by decide) (Nat.le_of_ble_eq_true rfl) (by decide) (congrArg Prod.fst s_141) (by decide) (fun _ => rfl) (Nat.le_of_ble_eq_true rfl) rfl (fun r122 s122 e122 => ?_)
      refine ag_iinc_4 (q := 128) (d := (1)) dX8_season_125 rfl (Nat.le_of_ble_eq_true rfl) rfl (by decide) ?_
      refine ag_goto (q := 39) dX8_season_128 rfl ?_
      refine ag_kill_5 ?_
      refine ag_kill_7 ?_
      refine ag_kill_8 ?_
      exact ih x1 x2 x3 (x4 + (1)) s122
    refine ag_iload_8 (q := 117) dX8_season_115 rfl ?_
    refine ag_goto (q := 122) dX8_season_117 rfl ?_
    refine ag_callV_mU (q := 125) (av := [.int _]) (rest := []) dX8_season_122 rfl lk8_240 (C_X8_goesBy (((10 : Int32) * (rmI (((rmL (((((7919 : Int64) * (x1.toInt64)) + ((6151 : Int64) * (x4.toInt64))) + (1 : Int64)) * ((((7919 : Int64) * (x1.toInt64)) + ((6151 : Int64) * (x4.toInt64))) + (1 : Int64))) (65521 : Int64)).toInt32) / (8 : Int32)) (σ 141 3))) + (rmI (((rmL (((((7919 : Int64) * (x1.toInt64)) + ((6151 : Int64) * (x4.toInt64))) + (1 : Int64)) * ((((7919 : Int64) * (x1.toInt64)) + ((6151 : Int64) * (x4.toInt64))) + (1 : Int64))) (65521 : Int64)).toInt32) / (64 : Int32)) (4 : Int32))) _) (by decide) (Nat.le_of_ble_eq_true rfl) (by decide) (congrArg Prod.fst s_141) (by decide) (fun _ => rfl) (Nat.le_of_ble_eq_true rfl) rfl (fun r122 s122 e122 => ?_)
    refine ag_iinc_4 (q := 128) (d := (1)) dX8_season_125 rfl (Nat.le_of_ble_eq_true rfl) rfl (by decide) ?_
    refine ag_goto (q := 39) dX8_season_128 rfl ?_
    refine ag_kill_5 ?_
    refine ag_kill_7 ?_
    refine ag_kill_8 ?_
    exact ih x1 x2 x3 (x4 + (1)) s122
def J_X8_season (a1 : Int32) (a2 : Int32) (a3 : Int32) (σ : Sg) : Option (Int32 × Sg) :=
  (bd1 (J_X8_in a1 (0 : Int32) (9999 : Int32) σ) fun r5 => (if r5 = 0 then (some ((-1 : Int32), σ)) else (bd1 (J_X8_in a2 (1 : Int32) (60 : Int32) σ) fun r15 => (if r15 = 0 then (some ((-1 : Int32), σ)) else (bd1 (J_X8_in a3 (0 : Int32) (1 : Int32) σ) fun r24 => (if r24 = 0 then (some ((-1 : Int32), σ)) else (bd2 (J_X8_asItIs  σ) fun r33 s33 => (J_X8_season_b39   FU a1 a2 a3 (0 : Int32) s33))))))))
set_option maxHeartbeats 4000000 in
theorem A_X8_season (K : KT) (a1 : Int32) (a2 : Int32) (a3 : Int32) (σ : Sg) : AG K mX8_season (fun a : Int32 × Sg => (some (.int a.1), NT, R0, a.2)) (J_X8_season a1 a2 a3 σ) 0 [some (.ref 141), some (.int a1), some (.int a2), some (.int a3), none, none, none, none, none] [] σ := by
  unfold J_X8_season
  refine ag_iload_1 (q := 1) dX8_season_0 rfl ?_
  refine ag_iconst (q := 2) (v := 0) dX8_season_1 rfl (by decide) ?_
  refine ag_sipush (q := 5) (v := 9999) dX8_season_2 rfl (by decide) ?_
  refine ag_callS_pI (q := 8) (av := [.int _, .int _, .int _]) (rest := []) dX8_season_5 rfl lk8_115 (C_X8_in a1 (0 : Int32) (9999 : Int32) _) (by decide) (Nat.le_of_ble_eq_true rfl) (fun _ => rfl) (Nat.le_of_ble_eq_true rfl) rfl (fun r5 e5 => ?_)
  refine ag_if_eq (tgt := 30) (q := 11) dX8_season_8 rfl rfl ?_ ?_
  · refine ag_iconst (q := 31) (v := -1) dX8_season_30 rfl (by decide) ?_
    exact ag_iret dX8_season_31 rfl rfl
  refine ag_iload_2 (q := 12) dX8_season_11 rfl ?_
  refine ag_iconst (q := 13) (v := 1) dX8_season_12 rfl (by decide) ?_
  refine ag_bipush (q := 15) (v := 60) dX8_season_13 rfl (by decide) ?_
  refine ag_callS_pI (q := 18) (av := [.int _, .int _, .int _]) (rest := []) dX8_season_15 rfl lk8_115 (C_X8_in a2 (1 : Int32) (60 : Int32) _) (by decide) (Nat.le_of_ble_eq_true rfl) (fun _ => rfl) (Nat.le_of_ble_eq_true rfl) rfl (fun r15 e15 => ?_)
  refine ag_if_eq (tgt := 30) (q := 21) dX8_season_18 rfl rfl ?_ ?_
  · refine ag_iconst (q := 31) (v := -1) dX8_season_30 rfl (by decide) ?_
    exact ag_iret dX8_season_31 rfl rfl
  refine ag_iload_3 (q := 22) dX8_season_21 rfl ?_
  refine ag_iconst (q := 23) (v := 0) dX8_season_22 rfl (by decide) ?_
  refine ag_iconst (q := 24) (v := 1) dX8_season_23 rfl (by decide) ?_
  refine ag_callS_pI (q := 27) (av := [.int _, .int _, .int _]) (rest := []) dX8_season_24 rfl lk8_115 (C_X8_in a3 (0 : Int32) (1 : Int32) _) (by decide) (Nat.le_of_ble_eq_true rfl) (fun _ => rfl) (Nat.le_of_ble_eq_true rfl) rfl (fun r24 e24 => ?_)
  refine ag_if_ne (tgt := 32) (q := 30) dX8_season_27 rfl rfl ?_ ?_
  · refine ag_aload_0 (q := 33) dX8_season_32 rfl ?_
    refine ag_callV_mU (q := 36) (av := []) (rest := []) dX8_season_33 rfl lk8_228 (C_X8_asItIs  _) (by decide) (Nat.le_of_ble_eq_true rfl) (by decide) (congrArg Prod.fst s_141) (by decide) (fun _ => rfl) (Nat.le_of_ble_eq_true rfl) rfl (fun r33 s33 e33 => ?_)
    refine ag_iconst (q := 37) (v := 0) dX8_season_36 rfl (by decide) ?_
    refine ag_istore_4 (q := 39) dX8_season_37 rfl (Nat.le_of_ble_eq_true rfl) rfl ?_
    exact A_X8_season_b39 K   FU a1 a2 a3 (0 : Int32) s33
  refine ag_iconst (q := 31) (v := -1) dX8_season_30 rfl (by decide) ?_
  exact ag_iret dX8_season_31 rfl rfl
theorem C_X8_season (a1 : Int32) (a2 : Int32) (a3 : Int32) (σ : Sg) : ∀ r s', J_X8_season a1 a2 a3 σ = some (r, s') → AMc yX8_season mX8_season [.ref 141, .int a1, .int a2, .int a3] NT R0 σ (some (.int r), NT, R0, s') := fun r s' e => AMc.of (L := [some (.ref 141), some (.int a1), some (.int a2), some (.int a3), none, none, none, none, none]) (by decide) rfl (fun _ => rfl) (fun _ => Nat.le_of_ble_eq_true rfl) (Nat.le_refl _) (fun K => A_X8_season K a1 a2 a3 σ _ e)
def J_X8_keep  (σ : Sg) : Option (Int32 × Sg) :=
  (if (σ 141 14) = (2 : Int32) then (some ((-3 : Int32), σ)) else (bd2 (J_X8_copies 149 ((54 : Int32) * (σ 141 14)) 146 (0 : Int32) (54 : Int32) σ) fun r29 s29 => (some (((up s29 141 14 ((s29 141 14) + (1 : Int32))) 141 14), (up s29 141 14 ((s29 141 14) + (1 : Int32)))))))
set_option maxHeartbeats 4000000 in
theorem A_X8_keep (K : KT)  (σ : Sg) : AG K mX8_keep (fun a : Int32 × Sg => (some (.int a.1), NT, R0, a.2)) (J_X8_keep  σ) 0 [some (.ref 141)] [] σ := by
  unfold J_X8_keep
  refine ag_aload_0 (q := 1) dX8_keep_0 rfl ?_
  refine ag_getI (q := 4) dX8_keep_1 rfl fl8_178 (by decide) (congrArg Prod.fst s_141) rfl ?_
  refine ag_iconst (q := 5) (v := 2) dX8_keep_4 rfl (by decide) ?_
  refine ag_icmp_ne (tgt := 11) (q := 8) dX8_keep_5 rfl rfl ?_ ?_
  · refine ag_aload_0 (q := 12) dX8_keep_11 rfl ?_
    refine ag_getR (q := 15) dX8_keep_12 rfl fl8_31 (by decide) (congrArg Prod.fst s_141) rfl r_141_15 ?_
    refine ag_bipush (q := 17) (v := 54) dX8_keep_15 rfl (by decide) ?_
    refine ag_aload_0 (q := 18) dX8_keep_17 rfl ?_
    refine ag_getI (q := 21) dX8_keep_18 rfl fl8_178 (by decide) (congrArg Prod.fst s_141) rfl ?_
    refine ag_imul (q := 22) dX8_keep_21 rfl ?_
    refine ag_aload_0 (q := 23) dX8_keep_22 rfl ?_
    refine ag_getR (q := 26) dX8_keep_23 rfl fl8_22 (by decide) (congrArg Prod.fst s_141) rfl r_141_10 ?_
    refine ag_iconst (q := 27) (v := 0) dX8_keep_26 rfl (by decide) ?_
    refine ag_bipush (q := 29) (v := 54) dX8_keep_27 rfl (by decide) ?_
    refine ag_callS_mU (q := 32) (av := [.ref _, .int _, .ref _, .int _, .int _]) (rest := []) dX8_keep_29 rfl lk8_162 (C_X8_copies 149 (by decide) ((54 : Int32) * (σ 141 14)) 146 (by decide) (0 : Int32) (54 : Int32) _) (by decide) (Nat.le_of_ble_eq_true rfl) (fun _ => rfl) (Nat.le_of_ble_eq_true rfl) rfl (fun r29 s29 e29 => ?_)
    refine ag_aload_0 (q := 33) dX8_keep_32 rfl ?_
    refine ag_dup (q := 34) dX8_keep_33 rfl rfl ?_
    refine ag_getI (q := 37) dX8_keep_34 rfl fl8_178 (by decide) (congrArg Prod.fst s_141) rfl ?_
    refine ag_iconst (q := 38) (v := 1) dX8_keep_37 rfl (by decide) ?_
    refine ag_iadd (q := 39) dX8_keep_38 rfl ?_
    refine ag_putI (q := 42) dX8_keep_39 rfl fl8_178 (by decide) (congrArg Prod.fst s_141) rfl ?_
    refine ag_aload_0 (q := 43) dX8_keep_42 rfl ?_
    refine ag_getI (q := 46) dX8_keep_43 rfl fl8_178 (by decide) (congrArg Prod.fst s_141) rfl ?_
    exact ag_iret dX8_keep_46 rfl rfl
  refine ag_bipush (q := 10) (v := -3) dX8_keep_8 rfl (by decide) ?_
  exact ag_iret dX8_keep_10 rfl rfl
theorem C_X8_keep  (σ : Sg) : ∀ r s', J_X8_keep  σ = some (r, s') → AMc yX8_keep mX8_keep [.ref 141] NT R0 σ (some (.int r), NT, R0, s') := fun r s' e => AMc.of (L := [some (.ref 141)]) (by decide) rfl (fun _ => rfl) (fun _ => Nat.le_of_ble_eq_true rfl) (Nat.le_refl _) (fun K => A_X8_keep K  σ _ e)
def J_X8_back  (σ : Sg) : Option (Int32 × Sg) :=
  (if (σ 141 14) = 0 then (some ((-2 : Int32), σ)) else (bd2 (J_X8_copies 146 (0 : Int32) 149 ((54 : Int32) * ((up σ 141 14 ((σ 141 14) - (1 : Int32))) 141 14)) (54 : Int32) (up σ 141 14 ((σ 141 14) - (1 : Int32)))) fun r38 s38 => (some (((up s38 141 11 (0 : Int32)) 141 14), (up s38 141 11 (0 : Int32))))))
set_option maxHeartbeats 4000000 in
theorem A_X8_back (K : KT)  (σ : Sg) : AG K mX8_back (fun a : Int32 × Sg => (some (.int a.1), NT, R0, a.2)) (J_X8_back  σ) 0 [some (.ref 141)] [] σ := by
  unfold J_X8_back
  refine ag_aload_0 (q := 1) dX8_back_0 rfl ?_
  refine ag_getI (q := 4) dX8_back_1 rfl fl8_178 (by decide) (congrArg Prod.fst s_141) rfl ?_
  refine ag_if_ne (tgt := 10) (q := 7) dX8_back_4 rfl rfl ?_ ?_
  · refine ag_aload_0 (q := 11) dX8_back_10 rfl ?_
    refine ag_dup (q := 12) dX8_back_11 rfl rfl ?_
    refine ag_getI (q := 15) dX8_back_12 rfl fl8_178 (by decide) (congrArg Prod.fst s_141) rfl ?_
    refine ag_iconst (q := 16) (v := 1) dX8_back_15 rfl (by decide) ?_
    refine ag_isub (q := 17) dX8_back_16 rfl ?_
    refine ag_putI (q := 20) dX8_back_17 rfl fl8_178 (by decide) (congrArg Prod.fst s_141) rfl ?_
    refine ag_aload_0 (q := 21) dX8_back_20 rfl ?_
    refine ag_getR (q := 24) dX8_back_21 rfl fl8_22 (by decide) (congrArg Prod.fst s_141) rfl r_141_10 ?_
    refine ag_iconst (q := 25) (v := 0) dX8_back_24 rfl (by decide) ?_
    refine ag_aload_0 (q := 26) dX8_back_25 rfl ?_
    refine ag_getR (q := 29) dX8_back_26 rfl fl8_31 (by decide) (congrArg Prod.fst s_141) rfl r_141_15 ?_
    refine ag_bipush (q := 31) (v := 54) dX8_back_29 rfl (by decide) ?_
    refine ag_aload_0 (q := 32) dX8_back_31 rfl ?_
    refine ag_getI (q := 35) dX8_back_32 rfl fl8_178 (by decide) (congrArg Prod.fst s_141) rfl ?_
    refine ag_imul (q := 36) dX8_back_35 rfl ?_
    refine ag_bipush (q := 38) (v := 54) dX8_back_36 rfl (by decide) ?_
    refine ag_callS_mU (q := 41) (av := [.ref _, .int _, .ref _, .int _, .int _]) (rest := []) dX8_back_38 rfl lk8_162 (C_X8_copies 146 (by decide) (0 : Int32) 149 (by decide) ((54 : Int32) * ((up σ 141 14 ((σ 141 14) - (1 : Int32))) 141 14)) (54 : Int32) _) (by decide) (Nat.le_of_ble_eq_true rfl) (fun _ => rfl) (Nat.le_of_ble_eq_true rfl) rfl (fun r38 s38 e38 => ?_)
    refine ag_aload_0 (q := 42) dX8_back_41 rfl ?_
    refine ag_iconst (q := 43) (v := 0) dX8_back_42 rfl (by decide) ?_
    refine ag_putI (q := 46) dX8_back_43 rfl fl8_175 (by decide) (congrArg Prod.fst s_141) rfl ?_
    refine ag_aload_0 (q := 47) dX8_back_46 rfl ?_
    refine ag_getI (q := 50) dX8_back_47 rfl fl8_178 (by decide) (congrArg Prod.fst s_141) rfl ?_
    exact ag_iret dX8_back_50 rfl rfl
  refine ag_bipush (q := 9) (v := -2) dX8_back_7 rfl (by decide) ?_
  exact ag_iret dX8_back_9 rfl rfl
theorem C_X8_back  (σ : Sg) : ∀ r s', J_X8_back  σ = some (r, s') → AMc yX8_back mX8_back [.ref 141] NT R0 σ (some (.int r), NT, R0, s') := fun r s' e => AMc.of (L := [some (.ref 141)]) (by decide) rfl (fun _ => rfl) (fun _ => Nat.le_of_ble_eq_true rfl) (Nat.le_refl _) (fun K => A_X8_back K  σ _ e)
def J_X8_count_b123  : Nat → Int32 → Int32 → Sg → Option (Int32 × Sg)
  | 0, _, _, _ => none
  | k + 1, x2, x3, σ =>
    (if (σ 141 0) ≤ x3 then (some (x2, σ)) else (if inb ((1 : Int32) + x3) 54 = true then (J_X8_count_b123   k (x2 + (σ 146 ((1 : Int32) + x3).toNatClampNeg)) (x3 + (1)) σ) else none))
set_option maxHeartbeats 4000000 in
theorem A_X8_count_b123 (K : KT)  : ∀ (k : Nat) (x2 : Int32) (x3 : Int32) (σ : Sg), AG K mX8_count (fun a : Int32 × Sg => (some (.int a.1), NT, R0, a.2)) (J_X8_count_b123   k x2 x3 σ) 123 [some (.ref 141), none, some (.int x2), some (.int x3)] [] σ := by
  intro k
  induction k with
  | zero => intro x2 x3 σ; exact ag_none
  | succ k ih =>
    intro x2 x3 σ
    rw [J_X8_count_b123]
    refine ag_iload_3 (q := 124) dX8_count_123 rfl ?_
    refine ag_aload_0 (q := 125) dX8_count_124 rfl ?_
    refine ag_getI (q := 128) dX8_count_125 rfl fl8_119 (by decide) (congrArg Prod.fst s_141) rfl ?_
    refine ag_icmp_ge (tgt := 148) (q := 131) dX8_count_128 rfl rfl ?_ ?_
    · refine ag_iload_2 (q := 149) dX8_count_148 rfl ?_
      exact ag_iret dX8_count_149 rfl rfl
    refine ag_iload_2 (q := 132) dX8_count_131 rfl ?_
    refine ag_aload_0 (q := 133) dX8_count_132 rfl ?_
    refine ag_getR (q := 136) dX8_count_133 rfl fl8_22 (by decide) (congrArg Prod.fst s_141) rfl r_141_10 ?_
    refine ag_iconst (q := 137) (v := 1) dX8_count_136 rfl (by decide) ?_
    refine ag_iload_3 (q := 138) dX8_count_137 rfl ?_
    refine ag_iadd (q := 139) dX8_count_138 rfl ?_
    refine ag_iald (q := 140) dX8_count_139 rfl (by decide) s_146 ?_
    refine ag_iadd (q := 141) dX8_count_140 rfl ?_
    refine ag_istore_2 (q := 142) dX8_count_141 rfl (Nat.le_of_ble_eq_true rfl) rfl ?_
    refine ag_iinc_3 (q := 145) (d := (1)) dX8_count_142 rfl (Nat.le_of_ble_eq_true rfl) rfl (by decide) ?_
    refine ag_goto (q := 123) dX8_count_145 rfl ?_
    exact ih (x2 + (σ 146 ((1 : Int32) + x3).toNatClampNeg)) (x3 + (1)) σ
def J_X8_count (a1 : Int32) (σ : Sg) : Option (Int32 × Sg) :=
  (bd2 (J_X8_asItIs  σ) fun r1 s1 => (if a1 = 0 then (some ((s1 141 0), s1)) else (if a1 = 1 then (some ((s1 141 1), s1)) else (if a1 = 2 then (some ((s1 141 3), s1)) else (if a1 = 3 then (some ((s1 146 0), s1)) else (if a1 = 4 then (bd1 (J_X8_onMeadow (0 : Int32) s1) fun r96 => (some (r96, s1))) else (if a1 = 5 then (bd1 (J_X8_onMeadow (1 : Int32) s1) fun r102 => (some (r102, s1))) else (if a1 = 6 then (bd1 (J_X8_worth  s1) fun r109 => (some (((100 : Int32) + r109), s1))) else (if a1 = 7 then (bd1 (J_X8_lost  s1) fun r115 => (some (r115, s1))) else (if a1 = 8 then (J_X8_count_b123   FU (0 : Int32) (0 : Int32) s1) else (if a1 = 9 then (some ((s1 141 7), s1)) else (if a1 = 10 then (some ((s1 141 11), s1)) else (if a1 = 11 then (some ((s1 141 14), s1)) else (if a1 = 12 then (some ((s1 141 17), s1)) else (some ((-1 : Int32), s1))))))))))))))))
set_option maxHeartbeats 4000000 in
theorem A_X8_count (K : KT) (a1 : Int32) (σ : Sg) : AG K mX8_count (fun a : Int32 × Sg => (some (.int a.1), NT, R0, a.2)) (J_X8_count a1 σ) 0 [some (.ref 141), some (.int a1), none, none] [] σ := by
  unfold J_X8_count
  refine ag_aload_0 (q := 1) dX8_count_0 rfl ?_
  refine ag_callV_mU (q := 4) (av := []) (rest := []) dX8_count_1 rfl lk8_228 (C_X8_asItIs  _) (by decide) (Nat.le_of_ble_eq_true rfl) (by decide) (congrArg Prod.fst s_141) (by decide) (fun _ => rfl) (Nat.le_of_ble_eq_true rfl) rfl (fun r1 s1 e1 => ?_)
  refine ag_iload_1 (q := 5) dX8_count_4 rfl ?_
  refine ag_ite (fun z0 => ?_) (fun z0 => ?_)
  · refine ag_tin (k := 0) (q := 72) dX8_count_5 z0 (by decide) (by decide) rfl rfl ?_
    refine ag_aload_0 (q := 73) dX8_count_72 rfl ?_
    refine ag_getI (q := 76) dX8_count_73 rfl fl8_119 (by decide) (congrArg Prod.fst s_141) rfl ?_
    exact ag_iret dX8_count_76 rfl rfl
  refine ag_ite (fun z1 => ?_) (fun z1 => ?_)
  · refine ag_tin (k := 1) (q := 77) dX8_count_5 z1 (by decide) (by decide) rfl rfl ?_
    refine ag_aload_0 (q := 78) dX8_count_77 rfl ?_
    refine ag_getI (q := 81) dX8_count_78 rfl fl8_159 (by decide) (congrArg Prod.fst s_141) rfl ?_
    exact ag_iret dX8_count_81 rfl rfl
  refine ag_ite (fun z2 => ?_) (fun z2 => ?_)
  · refine ag_tin (k := 2) (q := 82) dX8_count_5 z2 (by decide) (by decide) rfl rfl ?_
    refine ag_aload_0 (q := 83) dX8_count_82 rfl ?_
    refine ag_getI (q := 86) dX8_count_83 rfl fl8_112 (by decide) (congrArg Prod.fst s_141) rfl ?_
    exact ag_iret dX8_count_86 rfl rfl
  refine ag_ite (fun z3 => ?_) (fun z3 => ?_)
  · refine ag_tin (k := 3) (q := 87) dX8_count_5 z3 (by decide) (by decide) rfl rfl ?_
    refine ag_aload_0 (q := 88) dX8_count_87 rfl ?_
    refine ag_getR (q := 91) dX8_count_88 rfl fl8_22 (by decide) (congrArg Prod.fst s_141) rfl r_141_10 ?_
    refine ag_iconst (q := 92) (v := 0) dX8_count_91 rfl (by decide) ?_
    refine ag_ialdK (q := 93) (k := 0) dX8_count_92 rfl (by decide) s_146 (by decide) (by decide) ?_
    exact ag_iret dX8_count_93 rfl rfl
  refine ag_ite (fun z4 => ?_) (fun z4 => ?_)
  · refine ag_tin (k := 4) (q := 94) dX8_count_5 z4 (by decide) (by decide) rfl rfl ?_
    refine ag_aload_0 (q := 95) dX8_count_94 rfl ?_
    refine ag_iconst (q := 96) (v := 0) dX8_count_95 rfl (by decide) ?_
    refine ag_callV_pI (q := 99) (av := [.int _]) (rest := []) dX8_count_96 rfl lk8_267 (C_X8_onMeadow (0 : Int32) _) (by decide) (Nat.le_of_ble_eq_true rfl) (by decide) (congrArg Prod.fst s_141) (by decide) (fun _ => rfl) (Nat.le_of_ble_eq_true rfl) rfl (fun r96 e96 => ?_)
    exact ag_iret dX8_count_99 rfl rfl
  refine ag_ite (fun z5 => ?_) (fun z5 => ?_)
  · refine ag_tin (k := 5) (q := 100) dX8_count_5 z5 (by decide) (by decide) rfl rfl ?_
    refine ag_aload_0 (q := 101) dX8_count_100 rfl ?_
    refine ag_iconst (q := 102) (v := 1) dX8_count_101 rfl (by decide) ?_
    refine ag_callV_pI (q := 105) (av := [.int _]) (rest := []) dX8_count_102 rfl lk8_267 (C_X8_onMeadow (1 : Int32) _) (by decide) (Nat.le_of_ble_eq_true rfl) (by decide) (congrArg Prod.fst s_141) (by decide) (fun _ => rfl) (Nat.le_of_ble_eq_true rfl) rfl (fun r102 e102 => ?_)
    exact ag_iret dX8_count_105 rfl rfl
  refine ag_ite (fun z6 => ?_) (fun z6 => ?_)
  · refine ag_tin (k := 6) (q := 106) dX8_count_5 z6 (by decide) (by decide) rfl rfl ?_
    refine ag_bipush (q := 108) (v := 100) dX8_count_106 rfl (by decide) ?_
    refine ag_aload_0 (q := 109) dX8_count_108 rfl ?_
    refine ag_callV_pI (q := 112) (av := []) (rest := [.int _]) dX8_count_109 rfl lk8_273 (C_X8_worth  _) (by decide) (Nat.le_of_ble_eq_true rfl) (by decide) (congrArg Prod.fst s_141) (by decide) (fun _ => rfl) (Nat.le_of_ble_eq_true rfl) rfl (fun r109 e109 => ?_)
    refine ag_iadd (q := 113) dX8_count_112 rfl ?_
    exact ag_iret dX8_count_113 rfl rfl
  refine ag_ite (fun z7 => ?_) (fun z7 => ?_)
  · refine ag_tin (k := 7) (q := 114) dX8_count_5 z7 (by decide) (by decide) rfl rfl ?_
    refine ag_aload_0 (q := 115) dX8_count_114 rfl ?_
    refine ag_callV_pI (q := 118) (av := []) (rest := []) dX8_count_115 rfl lk8_222 (C_X8_lost  _) (by decide) (Nat.le_of_ble_eq_true rfl) (by decide) (congrArg Prod.fst s_141) (by decide) (fun _ => rfl) (Nat.le_of_ble_eq_true rfl) rfl (fun r115 e115 => ?_)
    exact ag_iret dX8_count_118 rfl rfl
  refine ag_ite (fun z8 => ?_) (fun z8 => ?_)
  · refine ag_tin (k := 8) (q := 119) dX8_count_5 z8 (by decide) (by decide) rfl rfl ?_
    refine ag_iconst (q := 120) (v := 0) dX8_count_119 rfl (by decide) ?_
    refine ag_istore_2 (q := 121) dX8_count_120 rfl (Nat.le_of_ble_eq_true rfl) rfl ?_
    refine ag_iconst (q := 122) (v := 0) dX8_count_121 rfl (by decide) ?_
    refine ag_istore_3 (q := 123) dX8_count_122 rfl (Nat.le_of_ble_eq_true rfl) rfl ?_
    refine ag_kill_1 ?_
    exact A_X8_count_b123 K   FU (0 : Int32) (0 : Int32) s1
  refine ag_ite (fun z9 => ?_) (fun z9 => ?_)
  · refine ag_tin (k := 9) (q := 150) dX8_count_5 z9 (by decide) (by decide) rfl rfl ?_
    refine ag_aload_0 (q := 151) dX8_count_150 rfl ?_
    refine ag_getI (q := 154) dX8_count_151 rfl fl8_169 (by decide) (congrArg Prod.fst s_141) rfl ?_
    exact ag_iret dX8_count_154 rfl rfl
  refine ag_ite (fun z10 => ?_) (fun z10 => ?_)
  · refine ag_tin (k := 10) (q := 155) dX8_count_5 z10 (by decide) (by decide) rfl rfl ?_
    refine ag_aload_0 (q := 156) dX8_count_155 rfl ?_
    refine ag_getI (q := 159) dX8_count_156 rfl fl8_175 (by decide) (congrArg Prod.fst s_141) rfl ?_
    exact ag_iret dX8_count_159 rfl rfl
  refine ag_ite (fun z11 => ?_) (fun z11 => ?_)
  · refine ag_tin (k := 11) (q := 160) dX8_count_5 z11 (by decide) (by decide) rfl rfl ?_
    refine ag_aload_0 (q := 161) dX8_count_160 rfl ?_
    refine ag_getI (q := 164) dX8_count_161 rfl fl8_178 (by decide) (congrArg Prod.fst s_141) rfl ?_
    exact ag_iret dX8_count_164 rfl rfl
  refine ag_ite (fun z12 => ?_) (fun z12 => ?_)
  · refine ag_tin (k := 12) (q := 165) dX8_count_5 z12 (by decide) (by decide) rfl rfl ?_
    refine ag_aload_0 (q := 166) dX8_count_165 rfl ?_
    refine ag_getI (q := 169) dX8_count_166 rfl fl8_122 (by decide) (congrArg Prod.fst s_141) rfl ?_
    exact ag_iret dX8_count_169 rfl rfl
  refine ag_tout (q := 170) dX8_count_5 (by have q0 := lv_neT z0 (by decide : (0 : Int32).toInt = 0); have q1 := lv_neT z1 (by decide : (1 : Int32).toInt = 1); have q2 := lv_neT z2 (by decide : (2 : Int32).toInt = 2); have q3 := lv_neT z3 (by decide : (3 : Int32).toInt = 3); have q4 := lv_neT z4 (by decide : (4 : Int32).toInt = 4); have q5 := lv_neT z5 (by decide : (5 : Int32).toInt = 5); have q6 := lv_neT z6 (by decide : (6 : Int32).toInt = 6); have q7 := lv_neT z7 (by decide : (7 : Int32).toInt = 7); have q8 := lv_neT z8 (by decide : (8 : Int32).toInt = 8); have q9 := lv_neT z9 (by decide : (9 : Int32).toInt = 9); have q10 := lv_neT z10 (by decide : (10 : Int32).toInt = 10); have q11 := lv_neT z11 (by decide : (11 : Int32).toInt = 11); have q12 := lv_neT z12 (by decide : (12 : Int32).toInt = 12); omega) rfl ?_
  refine ag_iconst (q := 171) (v := -1) dX8_count_170 rfl (by decide) ?_
  exact ag_iret dX8_count_171 rfl rfl
theorem C_X8_count (a1 : Int32) (σ : Sg) : ∀ r s', J_X8_count a1 σ = some (r, s') → AMc yX8_count mX8_count [.ref 141, .int a1] NT R0 σ (some (.int r), NT, R0, s') := fun r s' e => AMc.of (L := [some (.ref 141), some (.int a1), none, none]) (by decide) rfl (fun _ => rfl) (fun _ => Nat.le_of_ble_eq_true rfl) (Nat.le_refl _) (fun K => A_X8_count K a1 σ _ e)
