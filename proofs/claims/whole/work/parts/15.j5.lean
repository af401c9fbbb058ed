def J_X8_readNumbers_b101  (y2 : Int32 → Int32 → Sg → Option (Int32 × Sg)) (x1 : Int32) (x2 : Int32) (σ : Sg) : Option (Int32 × Sg) :=
  (bd1 (J_X8_letterAt (σ 141 18) σ) fun r106 => (if (x1 - (1 : Int32)) ≤ x2 then (if r106 = (59 : Int32) then (y2 x1 (x2 + (1)) (up σ 141 18 ((σ 141 18) + (1 : Int32)))) else (some ((0 : Int32), σ))) else (if r106 = (44 : Int32) then (y2 x1 (x2 + (1)) (up σ 141 18 ((σ 141 18) + (1 : Int32)))) else (some ((0 : Int32), σ)))))
set_option maxHeartbeats 4000000 in
theorem A_X8_readNumbers_b101 (K : KT) {N : Nat} (hN : NT ≤ N)  (y2 : Int32 → Int32 → Sg → Option (Int32 × Sg)) (hy2 : ∀ (x1 : Int32) (x2 : Int32) (σ : Sg), AG K mX8_readNumbers N (fun a : Int32 × Sg => (some (.int a.1), N, R0, a.2)) (y2 x1 x2 σ) 2 [some (.ref 141), some (.int x1), some (.int x2)] [] σ) (x1 : Int32) (x2 : Int32) (σ : Sg) : AG K mX8_readNumbers N (fun a : Int32 × Sg => (some (.int a.1), N, R0, a.2)) (J_X8_readNumbers_b101  y2 x1 x2 σ) 101 [some (.ref 141), some (.int x1), some (.int x2)] [] σ := by
  unfold J_X8_readNumbers_b101
  refine ag_aload_0 (q := 102) dX8_readNumbers_101 rfl ?_
  refine ag_aload_0 (q := 103) dX8_readNumbers_102 rfl ?_
  refine ag_getI (q := 106) dX8_readNumbers_103 rfl fl8_125 (Nat.lt_of_lt_of_le (by decide : 141 < NT) hN) (congrArg Prod.fst s_141) rfl ?_
  refine ag_callV_pI (q := 109) (av := [.int _]) (rest := []) dX8_readNumbers_106 rfl lk8_128 (C_X8_letterAt hN (σ 141 18) _) (by decide) (Nat.le_of_ble_eq_true rfl) (Nat.lt_of_lt_of_le (by decide : 141 < NT) hN) (congrArg Prod.fst s_141) (by decide) (fun _ => rfl) (Nat.le_of_ble_eq_true rfl) rfl (fun r106 e106 => ?_)
  refine ag_iload_2 (q := 110) dX8_readNumbers_109 rfl ?_
  refine ag_iload_1 (q := 111) dX8_readNumbers_110 rfl ?_
  refine ag_iconst (q := 112) (v := 1) dX8_readNumbers_111 rfl (by decide) ?_
  refine ag_isub (q := 113) dX8_readNumbers_112 rfl ?_
  refine ag_icmp_ge (tgt := 121) (q := 116) dX8_readNumbers_113 rfl rfl ?_ ?_
  · refine ag_bipush (q := 123) (v := 59) dX8_readNumbers_121 rfl (by decide) ?_
    refine ag_icmp_eq (tgt := 128) (q := 126) dX8_readNumbers_123 rfl rfl ?_ ?_
    · refine ag_aload_0 (q := 129) dX8_readNumbers_128 rfl ?_
      refine ag_dup (q := 130) dX8_readNumbers_129 rfl rfl ?_
      refine ag_getI (q := 133) dX8_readNumbers_130 rfl fl8_125 (Nat.lt_of_lt_of_le (by decide : 141 < NT) hN) (congrArg Prod.fst s_141) rfl ?_
      refine ag_iconst (q := 134) (v := 1) dX8_readNumbers_133 rfl (by decide) ?_
      refine ag_iadd (q := 135) dX8_readNumbers_134 rfl ?_
      refine ag_putI (q := 138) dX8_readNumbers_135 rfl fl8_125 (Nat.lt_of_lt_of_le (by decide : 141 < NT) hN) (congrArg Prod.fst s_141) rfl ?_
      refine ag_iinc_2 (q := 141) (d := (1)) dX8_readNumbers_138 rfl (Nat.le_of_ble_eq_true rfl) rfl (by decide) ?_
      refine ag_goto (q := 2) dX8_readNumbers_141 rfl ?_
      exact hy2 x1 (x2 + (1)) (up σ 141 18 ((σ 141 18) + (1 : Int32)))
    refine ag_iconst (q := 127) (v := 0) dX8_readNumbers_126 rfl (by decide) ?_
    exact ag_zretK dX8_readNumbers_127 rfl (by decide) rfl
  refine ag_bipush (q := 118) (v := 44) dX8_readNumbers_116 rfl (by decide) ?_
  refine ag_goto (q := 123) dX8_readNumbers_118 rfl ?_
  refine ag_icmp_eq (tgt := 128) (q := 126) dX8_readNumbers_123 rfl rfl ?_ ?_
  · refine ag_aload_0 (q := 129) dX8_readNumbers_128 rfl ?_
    refine ag_dup (q := 130) dX8_readNumbers_129 rfl rfl ?_
    refine ag_getI (q := 133) dX8_readNumbers_130 rfl fl8_125 (Nat.lt_of_lt_of_le (by decide : 141 < NT) hN) (congrArg Prod.fst s_141) rfl ?_
    refine ag_iconst (q := 134) (v := 1) dX8_readNumbers_133 rfl (by decide) ?_
    refine ag_iadd (q := 135) dX8_readNumbers_134 rfl ?_
    refine ag_putI (q := 138) dX8_readNumbers_135 rfl fl8_125 (Nat.lt_of_lt_of_le (by decide : 141 < NT) hN) (congrArg Prod.fst s_141) rfl ?_
    refine ag_iinc_2 (q := 141) (d := (1)) dX8_readNumbers_138 rfl (Nat.le_of_ble_eq_true rfl) rfl (by decide) ?_
    refine ag_goto (q := 2) dX8_readNumbers_141 rfl ?_
    exact hy2 x1 (x2 + (1)) (up σ 141 18 ((σ 141 18) + (1 : Int32)))
  refine ag_iconst (q := 127) (v := 0) dX8_readNumbers_126 rfl (by decide) ?_
  exact ag_zretK dX8_readNumbers_127 rfl (by decide) rfl
def J_X8_readNumbers_b2  : Nat → Int32 → Int32 → Sg → Option (Int32 × Sg)
  | 0, _, _, _ => none
  | k + 1, x1, x2, σ =>
    (if x1 ≤ x2 then (some ((1 : Int32), σ)) else (bd1 (J_X8_letterAt (σ 141 18) σ) fun r12 => (bd1 (J_X8_isFigure r12 σ) fun r15 => (if r15 = 0 then (some ((0 : Int32), σ)) else (bd1 (J_X8_letterAt (σ 141 18) σ) fun r33 => (if inb x2 3 = true then (bd1 (J_X8_letterAt ((up (up σ 151 x2.toNatClampNeg (r33 - (48 : Int32))) 141 18 (((up σ 151 x2.toNatClampNeg (r33 - (48 : Int32))) 141 18) + (1 : Int32))) 141 18) (up (up σ 151 x2.toNatClampNeg (r33 - (48 : Int32))) 141 18 (((up σ 151 x2.toNatClampNeg (r33 - (48 : Int32))) 141 18) + (1 : Int32)))) fun r55 => (bd1 (J_X8_isFigure r55 (up (up σ 151 x2.toNatClampNeg (r33 - (48 : Int32))) 141 18 (((up σ 151 x2.toNatClampNeg (r33 - (48 : Int32))) 141 18) + (1 : Int32)))) fun r58 => (if r58 = 0 then (J_X8_readNumbers_b101  (fun x1 x2 σ => J_X8_readNumbers_b2   k x1 x2 σ) x1 x2 (up (up σ 151 x2.toNatClampNeg (r33 - (48 : Int32))) 141 18 (((up σ 151 x2.toNatClampNeg (r33 - (48 : Int32))) 141 18) + (1 : Int32)))) else (if inb x2 3 = true then (bd1 (J_X8_letterAt ((up (up σ 151 x2.toNatClampNeg (r33 - (48 : Int32))) 141 18 (((up σ 151 x2.toNatClampNeg (r33 - (48 : Int32))) 141 18) + (1 : Int32))) 141 18) (up (up σ 151 x2.toNatClampNeg (r33 - (48 : Int32))) 141 18 (((up σ 151 x2.toNatClampNeg (r33 - (48 : Int32))) 141 18) + (1 : Int32)))) fun r83 => (if inb x2 3 = true then (J_X8_readNumbers_b101  (fun x1 x2 σ => J_X8_readNumbers_b2   k x1 x2 σ) x1 x2 (up (up (up (up σ 151 x2.toNatClampNeg (r33 - (48 : Int32))) 141 18 (((up σ 151 x2.toNatClampNeg (r33 - (48 : Int32))) 141 18) + (1 : Int32))) 151 x2.toNatClampNeg ((((10 : Int32) * ((up (up σ 151 x2.toNatClampNeg (r33 - (48 : Int32))) 141 18 (((up σ 151 x2.toNatClampNeg (r33 - (48 : Int32))) 141 18) + (1 : Int32))) 151 x2.toNatClampNeg)) + r83) - (48 : Int32))) 141 18 (((up (up (up σ 151 x2.toNatClampNeg (r33 - (48 : Int32))) 141 18 (((up σ 151 x2.toNatClampNeg (r33 - (48 : Int32))) 141 18) + (1 : Int32))) 151 x2.toNatClampNeg ((((10 : Int32) * ((up (up σ 151 x2.toNatClampNeg (r33 - (48 : Int32))) 141 18 (((up σ 151 x2.toNatClampNeg (r33 - (48 : Int32))) 141 18) + (1 : Int32))) 151 x2.toNatClampNeg)) + r83) - (48 : Int32))) 141 18) + (1 : Int32)))) else none)) else none)))) else none))))))
set_option maxHeartbeats 4000000 in
theorem A_X8_readNumbers_b2 (K : KT) {N : Nat} (hN : NT ≤ N)  : ∀ (k : Nat) (x1 : Int32) (x2 : Int32) (σ : Sg), AG K mX8_readNumbers N (fun a : Int32 × Sg => (some (.int a.1), N, R0, a.2)) (J_X8_readNumbers_b2   k x1 x2 σ) 2 [some (.ref 141), some (.int x1), some (.int x2)] [] σ := by
  intro k
  induction k with
  | zero => intro x1 x2 σ; exact ag_none
  | succ k ih =>
    intro x1 x2 σ
    rw [J_X8_readNumbers_b2]
    refine ag_iload_2 (q := 3) dX8_readNumbers_2 rfl ?_
    refine ag_iload_1 (q := 4) dX8_readNumbers_3 rfl ?_
    refine ag_icmp_ge (tgt := 144) (q := 7) dX8_readNumbers_4 rfl rfl ?_ ?_
    · refine ag_iconst (q := 145) (v := 1) dX8_readNumbers_144 rfl (by decide) ?_
      exact ag_zretK dX8_readNumbers_145 rfl (by decide) rfl
    refine ag_aload_0 (q := 8) dX8_readNumbers_7 rfl ?_
    refine ag_aload_0 (q := 9) dX8_readNumbers_8 rfl ?_
    refine ag_getI (q := 12) dX8_readNumbers_9 rfl fl8_125 (Nat.lt_of_lt_of_le (by decide : 141 < NT) hN) (congrArg Prod.fst s_141) rfl ?_
    refine ag_callV_pI (q := 15) (av := [.int _]) (rest := []) dX8_readNumbers_12 rfl lk8_128 (C_X8_letterAt hN (σ 141 18) _) (by decide) (Nat.le_of_ble_eq_true rfl) (Nat.lt_of_lt_of_le (by decide : 141 < NT) hN) (congrArg Prod.fst s_141) (by decide) (fun _ => rfl) (Nat.le_of_ble_eq_true rfl) rfl (fun r12 e12 => ?_)
    refine ag_callS_pI (q := 18) (av := [.int _]) (rest := []) dX8_readNumbers_15 rfl lk8_132 (C_X8_isFigure hN r12 _) (by decide) (Nat.le_of_ble_eq_true rfl) (fun _ => rfl) (Nat.le_of_ble_eq_true rfl) rfl (fun r15 e15 => ?_)
    refine ag_if_ne (tgt := 23) (q := 21) dX8_readNumbers_18 rfl rfl ?_ ?_
    · refine ag_aload_0 (q := 24) dX8_readNumbers_23 rfl ?_
      refine ag_getR (q := 27) dX8_readNumbers_24 rfl fl8_37 (Nat.lt_of_lt_of_le (by decide : 141 < NT) hN) (congrArg Prod.fst s_141) rfl r_141_19 ?_
      refine ag_iload_2 (q := 28) dX8_readNumbers_27 rfl ?_
      refine ag_aload_0 (q := 29) dX8_readNumbers_28 rfl ?_
      refine ag_aload_0 (q := 30) dX8_readNumbers_29 rfl ?_
      refine ag_getI (q := 33) dX8_readNumbers_30 rfl fl8_125 (Nat.lt_of_lt_of_le (by decide : 141 < NT) hN) (congrArg Prod.fst s_141) rfl ?_
      refine ag_callV_pI (q := 36) (av := [.int _]) (rest := [.int _, .ref _]) dX8_readNumbers_33 rfl lk8_128 (C_X8_letterAt hN (σ 141 18) _) (by decide) (Nat.le_of_ble_eq_true rfl) (Nat.lt_of_lt_of_le (by decide : 141 < NT) hN) (congrArg Prod.fst s_141) (by decide) (fun _ => rfl) (Nat.le_of_ble_eq_true rfl) rfl (fun r33 e33 => ?_)
      refine ag_bipush (q := 38) (v := 48) dX8_readNumbers_36 rfl (by decide) ?_
      refine ag_isub (q := 39) dX8_readNumbers_38 rfl ?_
      refine ag_iast (q := 40) dX8_readNumbers_39 rfl (Nat.lt_of_lt_of_le (by decide : 151 < NT) hN) s_151 ?_
      refine ag_aload_0 (q := 41) dX8_readNumbers_40 rfl ?_
      refine ag_dup (q := 42) dX8_readNumbers_41 rfl rfl ?_
      refine ag_getI (q := 45) dX8_readNumbers_42 rfl fl8_125 (Nat.lt_of_lt_of_le (by decide : 141 < NT) hN) (congrArg Prod.fst s_141) rfl ?_
      refine ag_iconst (q := 46) (v := 1) dX8_readNumbers_45 rfl (by decide) ?_
      refine ag_iadd (q := 47) dX8_readNumbers_46 rfl ?_
      refine ag_putI (q := 50) dX8_readNumbers_47 rfl fl8_125 (Nat.lt_of_lt_of_le (by decide : 141 < NT) hN) (congrArg Prod.fst s_141) rfl ?_
      refine ag_aload_0 (q := 51) dX8_readNumbers_50 rfl ?_
      refine ag_aload_0 (q := 52) dX8_readNumbers_51 rfl ?_
      refine ag_getI (q := 55) dX8_readNumbers_52 rfl fl8_125 (Nat.lt_of_lt_of_le (by decide : 141 < NT) hN) (congrArg Prod.fst s_141) rfl ?_
      refine ag_callV_pI (q := 58) (av := [.int _]) (rest := []) dX8_readNumbers_55 rfl lk8_128 (C_X8_letterAt hN ((up (up σ 151 x2.toNatClampNeg (r33 - (48 : Int32))) 141 18 (((up σ 151 x2.toNatClampNeg (r33 - (48 : Int32))) 141 18) + (1 : Int32))) 141 18) _) (by decide) (Nat.le_of_ble_eq_true rfl) (Nat.lt_of_lt_of_le (by decide : 141 < NT) hN) (congrArg Prod.fst s_141) (by decide) (fun _ => rfl) (Nat.le_of_ble_eq_true rfl) rfl (fun r55 e55 => ?_)
      refine ag_callS_pI (q := 61) (av := [.int _]) (rest := []) dX8_readNumbers_58 rfl lk8_132 (C_X8_isFigure hN r55 _) (by decide) (Nat.le_of_ble_eq_true rfl) (fun _ => rfl) (Nat.le_of_ble_eq_true rfl) rfl (fun r58 e58 => ?_)
      refine ag_if_eq (tgt := 101) (q := 64) dX8_readNumbers_61 rfl rfl ?_ ?_
      · exact A_X8_readNumbers_b101 K hN  (fun x1 x2 σ => J_X8_readNumbers_b2   k x1 x2 σ) (fun x1 x2 σ => ih x1 x2 σ) x1 x2 (up (up σ 151 x2.toNatClampNeg (r33 - (48 : Int32))) 141 18 (((up σ 151 x2.toNatClampNeg (r33 - (48 : Int32))) 141 18) + (1 : Int32)))
      refine ag_aload_0 (q := 65) dX8_readNumbers_64 rfl ?_
      refine ag_getR (q := 68) dX8_readNumbers_65 rfl fl8_37 (Nat.lt_of_lt_of_le (by decide : 141 < NT) hN) (congrArg Prod.fst s_141) rfl r_141_19 ?_
      refine ag_iload_2 (q := 69) dX8_readNumbers_68 rfl ?_
      refine ag_bipush (q := 71) (v := 10) dX8_readNumbers_69 rfl (by decide) ?_
      refine ag_aload_0 (q := 72) dX8_readNumbers_71 rfl ?_
      refine ag_getR (q := 75) dX8_readNumbers_72 rfl fl8_37 (Nat.lt_of_lt_of_le (by decide : 141 < NT) hN) (congrArg Prod.fst s_141) rfl r_141_19 ?_
      refine ag_iload_2 (q := 76) dX8_readNumbers_75 rfl ?_
      refine ag_iald (q := 77) dX8_readNumbers_76 rfl (Nat.lt_of_lt_of_le (by decide : 151 < NT) hN) s_151 ?_
      refine ag_imul (q := 78) dX8_readNumbers_77 rfl ?_
      refine ag_aload_0 (q := 79) dX8_readNumbers_78 rfl ?_
      refine ag_aload_0 (q := 80) dX8_readNumbers_79 rfl ?_
      refine ag_getI (q := 83) dX8_readNumbers_80 rfl fl8_125 (Nat.lt_of_lt_of_le (by decide : 141 < NT) hN) (congrArg Prod.fst s_141) rfl ?_
      refine ag_callV_pI (q := 86) (av := [.int _]) (rest := [.int _, .int _, .ref _]) dX8_readNumbers_83 rfl lk8_128 (C_X8_letterAt hN ((up (up σ 151 x2.toNatClampNeg (r33 - (48 : Int32))) 141 18 (((up σ 151 x2.toNatClampNeg (r33 - (48 : Int32))) 141 18) + (1 : Int32))) 141 18) _) (by decide) (Nat.le_of_ble_eq_true rfl) (Nat.lt_of_lt_of_le (by decide : 141 < NT) hN) (congrArg Prod.fst s_141) (by decide) (fun _ => rfl) (Nat.le_of_ble_eq_true rfl) rfl (fun r83 e83 => ?_)
      refine ag_iadd (q := 87) dX8_readNumbers_86 rfl ?_
      refine ag_bipush (q := 89) (v := 48) dX8_readNumbers_87 rfl (by decide) ?_
      refine ag_isub (q := 90) dX8_readNumbers_89 rfl ?_
      refine ag_iast (q := 91) dX8_readNumbers_90 rfl (Nat.lt_of_lt_of_le (by decide : 151 < NT) hN) s_151 ?_
      refine ag_aload_0 (q := 92) dX8_readNumbers_91 rfl ?_
      refine ag_dup (q := 93) dX8_readNumbers_92 rfl rfl ?_
      refine ag_getI (q := 96) dX8_readNumbers_93 rfl fl8_125 (Nat.lt_of_lt_of_le (by decide : 141 < NT) hN) (congrArg Prod.fst s_141) rfl ?_
      refine ag_iconst (q := 97) (v := 1) dX8_readNumbers_96 rfl (by decide) ?_
      refine ag_iadd (q := 98) dX8_readNumbers_97 rfl ?_
      refine ag_putI (q := 101) dX8_readNumbers_98 rfl fl8_125 (Nat.lt_of_lt_of_le (by decide : 141 < NT) hN) (congrArg Prod.fst s_141) rfl ?_
      exact A_X8_readNumbers_b101 K hN  (fun x1 x2 σ => J_X8_readNumbers_b2   k x1 x2 σ) (fun x1 x2 σ => ih x1 x2 σ) x1 x2 (up (up (up (up σ 151 x2.toNatClampNeg (r33 - (48 : Int32))) 141 18 (((up σ 151 x2.toNatClampNeg (r33 - (48 : Int32))) 141 18) + (1 : Int32))) 151 x2.toNatClampNeg ((((10 : Int32) * ((up (up σ 151 x2.toNatClampNeg (r33 - (48 : Int32))) 141 18 (((up σ 151 x2.toNatClampNeg (r33 - (48 : Int32))) 141 18) + (1 : Int32))) 151 x2.toNatClampNeg)) + r83) - (48 : Int32))) 141 18 (((up (up (up σ 151 x2.toNatClampNeg (r33 - (48 : Int32))) 141 18 (((up σ 151 x2.toNatClampNeg (r33 - (48 : Int32))) 141 18) + (1 : Int32))) 151 x2.toNatClampNeg ((((10 : Int32) * ((up (up σ 151 x2.toNatClampNeg (r33 - (48 : Int32))) 141 18 (((up σ 151 x2.toNatClampNeg (r33 - (48 : Int32))) 141 18) + (1 : Int32))) 151 x2.toNatClampNeg)) + r83) - (48 : Int32))) 141 18) + (1 : Int32)))
    refine ag_iconst (q := 22) (v := 0) dX8_readNumbers_21 rfl (by decide) ?_
    exact ag_zretK dX8_readNumbers_22 rfl (by decide) rfl
def J_X8_readNumbers (a1 : Int32) (σ : Sg) : Option (Int32 × Sg) :=
  (J_X8_readNumbers_b2   FU a1 (0 : Int32) σ)
set_option maxHeartbeats 4000000 in
theorem A_X8_readNumbers (K : KT) {N : Nat} (hN : NT ≤ N) (a1 : Int32) (σ : Sg) : AG K mX8_readNumbers N (fun a : Int32 × Sg => (some (.int a.1), N, R0, a.2)) (J_X8_readNumbers a1 σ) 0 [some (.ref 141), some (.int a1), none] [] σ := by
  unfold J_X8_readNumbers
  refine ag_iconst (q := 1) (v := 0) dX8_readNumbers_0 rfl (by decide) ?_
  refine ag_istore_2 (q := 2) dX8_readNumbers_1 rfl (Nat.le_of_ble_eq_true rfl) rfl ?_
  exact A_X8_readNumbers_b2 K hN   FU a1 (0 : Int32) σ
theorem C_X8_readNumbers {N : Nat} (hN : NT ≤ N) (a1 : Int32) (σ : Sg) : ∀ r s', J_X8_readNumbers a1 σ = some (r, s') → AMc yX8_readNumbers mX8_readNumbers [.ref 141, .int a1] N R0 σ (some (.int r), N, R0, s') := fun r s' e => AMc.of (L := [some (.ref 141), some (.int a1), none]) (by decide) rfl (fun _ => rfl) (fun _ => Nat.le_of_ble_eq_true rfl) (Nat.le_refl _) (fun K => A_X8_readNumbers K hN a1 σ _ e)
def J_X8_isTold (a1 : Int32) (a2 : Int32) (a3 : Int32) (σ : Sg) : Option Int32 :=
  (if inb a1 3 = true then (bd1 (J_X8_in (σ 151 a1.toNatClampNeg) a2 a3 σ) fun r8 => (if r8 = 0 ∨ r8 = 1 then some r8 else none)) else none)
set_option maxHeartbeats 4000000 in
theorem A_X8_isTold (K : KT) {N : Nat} (hN : NT ≤ N) (a1 : Int32) (a2 : Int32) (a3 : Int32) (σ : Sg) : AG K mX8_isTold N (fun a : Int32 => (some (.int a), N, R0, σ)) (J_X8_isTold a1 a2 a3 σ) 0 [some (.ref 141), some (.int a1), some (.int a2), some (.int a3)] [] σ := by
  unfold J_X8_isTold
  refine ag_aload_0 (q := 1) dX8_isTold_0 rfl ?_
  refine ag_getR (q := 4) dX8_isTold_1 rfl fl8_37 (Nat.lt_of_lt_of_le (by decide : 141 < NT) hN) (congrArg Prod.fst s_141) rfl r_141_19 ?_
  refine ag_iload_1 (q := 5) dX8_isTold_4 rfl ?_
  refine ag_iald (q := 6) dX8_isTold_5 rfl (Nat.lt_of_lt_of_le (by decide : 151 < NT) hN) s_151 ?_
  refine ag_iload_2 (q := 7) dX8_isTold_6 rfl ?_
  refine ag_iload_3 (q := 8) dX8_isTold_7 rfl ?_
  refine ag_callS_pI (q := 11) (av := [.int _, .int _, .int _]) (rest := []) dX8_isTold_8 rfl lk8_115 (C_X8_in hN (σ 151 a1.toNatClampNeg) a2 a3 _) (by decide) (Nat.le_of_ble_eq_true rfl) (fun _ => rfl) (Nat.le_of_ble_eq_true rfl) rfl (fun r8 e8 => ?_)
  exact ag_zret dX8_isTold_11 rfl rfl
theorem C_X8_isTold {N : Nat} (hN : NT ≤ N) (a1 : Int32) (a2 : Int32) (a3 : Int32) (σ : Sg) : ∀ r, J_X8_isTold a1 a2 a3 σ = some r → AMc yX8_isTold mX8_isTold [.ref 141, .int a1, .int a2, .int a3] N R0 σ (some (.int r), N, R0, σ) := fun r e => AMc.of (L := [some (.ref 141), some (.int a1), some (.int a2), some (.int a3)]) (by decide) rfl (fun _ => rfl) (fun _ => Nat.le_of_ble_eq_true rfl) (Nat.le_refl _) (fun K => A_X8_isTold K hN a1 a2 a3 σ _ e)
def J_X8_clearTold_b33  : Nat → Int32 → Sg → Option (Unit × Sg)
  | 0, _, _ => none
  | k + 1, x1, σ =>
    (if (9 : Int32) ≤ x1 then (some ((), σ)) else (if inb x1 9 = true then (J_X8_clearTold_b33   k (x1 + (1)) (up σ 156 x1.toNatClampNeg (0 : Int32))) else none))
set_option maxHeartbeats 4000000 in
theorem A_X8_clearTold_b33 (K : KT) {N : Nat} (hN : NT ≤ N)  : ∀ (k : Nat) (x1 : Int32) (σ : Sg), AG K mX8_clearTold N (fun a : Unit × Sg => (none, N, R0, a.2)) (J_X8_clearTold_b33   k x1 σ) 33 [some (.ref 141), some (.int x1)] [] σ := by
  intro k
  induction k with
  | zero => intro x1 σ; exact ag_none
  | succ k ih =>
    intro x1 σ
    rw [J_X8_clearTold_b33]
    refine ag_iload_1 (q := 34) dX8_clearTold_33 rfl ?_
    refine ag_bipush (q := 36) (v := 9) dX8_clearTold_34 rfl (by decide) ?_
    refine ag_icmp_ge (tgt := 52) (q := 39) dX8_clearTold_36 rfl rfl ?_ ?_
    · exact ag_vret dX8_clearTold_52 rfl rfl
    refine ag_aload_0 (q := 40) dX8_clearTold_39 rfl ?_
    refine ag_getR (q := 43) dX8_clearTold_40 rfl fl8_52 (Nat.lt_of_lt_of_le (by decide : 141 < NT) hN) (congrArg Prod.fst s_141) rfl r_141_30 ?_
    refine ag_iload_1 (q := 44) dX8_clearTold_43 rfl ?_
    refine ag_iconst (q := 45) (v := 0) dX8_clearTold_44 rfl (by decide) ?_
    refine ag_iast (q := 46) dX8_clearTold_45 rfl (Nat.lt_of_lt_of_le (by decide : 156 < NT) hN) s_156 ?_
    refine ag_iinc_1 (q := 49) (d := (1)) dX8_clearTold_46 rfl (Nat.le_of_ble_eq_true rfl) rfl (by decide) ?_
    refine ag_goto (q := 33) dX8_clearTold_49 rfl ?_
    exact ih (x1 + (1)) (up σ 156 x1.toNatClampNeg (0 : Int32))
def J_X8_clearTold  (σ : Sg) : Option (Unit × Sg) :=
  (J_X8_clearTold_b33   FU (0 : Int32) (up (up (up (up (up (up σ 141 20 (0 : Int32)) 141 21 (0 : Int32)) 141 23 (0 : Int32)) 141 27 (-4 : Int32)) 141 28 (4 : Int32)) 141 29 (0 : Int32)))
set_option maxHeartbeats 4000000 in
theorem A_X8_clearTold (K : KT) {N : Nat} (hN : NT ≤ N)  (σ : Sg) : AG K mX8_clearTold N (fun a : Unit × Sg => (none, N, R0, a.2)) (J_X8_clearTold  σ) 0 [some (.ref 141), none] [] σ := by
  unfold J_X8_clearTold
  refine ag_aload_0 (q := 1) dX8_clearTold_0 rfl ?_
  refine ag_iconst (q := 2) (v := 0) dX8_clearTold_1 rfl (by decide) ?_
  refine ag_putI (q := 5) dX8_clearTold_2 rfl fl8_106 (Nat.lt_of_lt_of_le (by decide : 141 < NT) hN) (congrArg Prod.fst s_141) rfl ?_
  refine ag_aload_0 (q := 6) dX8_clearTold_5 rfl ?_
  refine ag_iconst (q := 7) (v := 0) dX8_clearTold_6 rfl (by decide) ?_
  refine ag_putI (q := 10) dX8_clearTold_7 rfl fl8_103 (Nat.lt_of_lt_of_le (by decide : 141 < NT) hN) (congrArg Prod.fst s_141) rfl ?_
  refine ag_aload_0 (q := 11) dX8_clearTold_10 rfl ?_
  refine ag_iconst (q := 12) (v := 0) dX8_clearTold_11 rfl (by decide) ?_
  refine ag_putI (q := 15) dX8_clearTold_12 rfl fl8_109 (Nat.lt_of_lt_of_le (by decide : 141 < NT) hN) (congrArg Prod.fst s_141) rfl ?_
  refine ag_aload_0 (q := 16) dX8_clearTold_15 rfl ?_
  refine ag_bipush (q := 18) (v := -4) dX8_clearTold_16 rfl (by decide) ?_
  refine ag_putI (q := 21) dX8_clearTold_18 rfl fl8_90 (Nat.lt_of_lt_of_le (by decide : 141 < NT) hN) (congrArg Prod.fst s_141) rfl ?_
  refine ag_aload_0 (q := 22) dX8_clearTold_21 rfl ?_
  refine ag_iconst (q := 23) (v := 4) dX8_clearTold_22 rfl (by decide) ?_
  refine ag_putI (q := 26) dX8_clearTold_23 rfl fl8_94 (Nat.lt_of_lt_of_le (by decide : 141 < NT) hN) (congrArg Prod.fst s_141) rfl ?_
  refine ag_aload_0 (q := 27) dX8_clearTold_26 rfl ?_
  refine ag_iconst (q := 28) (v := 0) dX8_clearTold_27 rfl (by decide) ?_
  refine ag_putI (q := 31) dX8_clearTold_28 rfl fl8_97 (Nat.lt_of_lt_of_le (by decide : 141 < NT) hN) (congrArg Prod.fst s_141) rfl ?_
  refine ag_iconst (q := 32) (v := 0) dX8_clearTold_31 rfl (by decide) ?_
  refine ag_istore_1 (q := 33) dX8_clearTold_32 rfl (Nat.le_of_ble_eq_true rfl) rfl ?_
  exact A_X8_clearTold_b33 K hN   FU (0 : Int32) (up (up (up (up (up (up σ 141 20 (0 : Int32)) 141 21 (0 : Int32)) 141 23 (0 : Int32)) 141 27 (-4 : Int32)) 141 28 (4 : Int32)) 141 29 (0 : Int32))
theorem C_X8_clearTold {N : Nat} (hN : NT ≤ N)  (σ : Sg) : ∀ r s', J_X8_clearTold  σ = some (r, s') → AMc yX8_clearTold mX8_clearTold [.ref 141] N R0 σ (none, N, R0, s') := fun r s' e => AMc.of (L := [some (.ref 141), none]) (by decide) rfl (fun _ => rfl) (fun _ => Nat.le_of_ble_eq_true rfl) (Nat.le_refl _) (fun K => A_X8_clearTold K hN  σ _ e)
def J_X8_readRow_b120  (x1 : Int32) (w0 : Int32) (σ : Sg) : Option (Int32 × Sg) :=
  (if w0 = 0 then (if w0 = 0 ∨ w0 = 1 then some (w0, (up σ 141 18 ((σ 141 18) + (1 : Int32)))) else none) else (if w0 = 0 ∨ w0 = 1 then some (w0, (up (up (up σ 141 18 ((σ 141 18) + (1 : Int32))) 141 21 x1) 141 20 (((up (up σ 141 18 ((σ 141 18) + (1 : Int32))) 141 21 x1) 141 20) + x1))) else none))
set_option maxHeartbeats 4000000 in
theorem A_X8_readRow_b120 (K : KT) {N : Nat} (hN : NT ≤ N)  (x1 : Int32) (w0 : Int32) (σ : Sg) : AG K mX8_readRow N (fun a : Int32 × Sg => (some (.int a.1), N, R0, a.2)) (J_X8_readRow_b120   x1 w0 σ) 120 [some (.ref 141), some (.int x1), none] [.int w0] σ := by
  unfold J_X8_readRow_b120
  refine ag_istore_2 (q := 121) dX8_readRow_120 rfl (Nat.le_of_ble_eq_true rfl) rfl ?_
  refine ag_aload_0 (q := 122) dX8_readRow_121 rfl ?_
  refine ag_dup (q := 123) dX8_readRow_122 rfl rfl ?_
  refine ag_getI (q := 126) dX8_readRow_123 rfl fl8_125 (Nat.lt_of_lt_of_le (by decide : 141 < NT) hN) (congrArg Prod.fst s_141) rfl ?_
  refine ag_iconst (q := 127) (v := 1) dX8_readRow_126 rfl (by decide) ?_
  refine ag_iadd (q := 128) dX8_readRow_127 rfl ?_
  refine ag_putI (q := 131) dX8_readRow_128 rfl fl8_125 (Nat.lt_of_lt_of_le (by decide : 141 < NT) hN) (congrArg Prod.fst s_141) rfl ?_
  refine ag_iload_2 (q := 132) dX8_readRow_131 rfl ?_
  refine ag_if_eq (tgt := 150) (q := 135) dX8_readRow_132 rfl rfl ?_ ?_
  · refine ag_iload_2 (q := 151) dX8_readRow_150 rfl ?_
    exact ag_zret dX8_readRow_151 rfl rfl
  refine ag_aload_0 (q := 136) dX8_readRow_135 rfl ?_
  refine ag_iload_1 (q := 137) dX8_readRow_136 rfl ?_
  refine ag_putI (q := 140) dX8_readRow_137 rfl fl8_103 (Nat.lt_of_lt_of_le (by decide : 141 < NT) hN) (congrArg Prod.fst s_141) rfl ?_
  refine ag_aload_0 (q := 141) dX8_readRow_140 rfl ?_
  refine ag_dup (q := 142) dX8_readRow_141 rfl rfl ?_
  refine ag_getI (q := 145) dX8_readRow_142 rfl fl8_106 (Nat.lt_of_lt_of_le (by decide : 141 < NT) hN) (congrArg Prod.fst s_141) rfl ?_
  refine ag_iload_1 (q := 146) dX8_readRow_145 rfl ?_
  refine ag_iadd (q := 147) dX8_readRow_146 rfl ?_
  refine ag_putI (q := 150) dX8_readRow_147 rfl fl8_106 (Nat.lt_of_lt_of_le (by decide : 141 < NT) hN) (congrArg Prod.fst s_141) rfl ?_
  refine ag_iload_2 (q := 151) dX8_readRow_150 rfl ?_
  exact ag_zret dX8_readRow_151 rfl rfl
def J_X8_readRow_b83  (x1 : Int32) (σ : Sg) : Option (Int32 × Sg) :=
  (if x1 ≤ 0 then (J_X8_readRow_b120   x1 (0 : Int32) σ) else (if (σ 141 20) = 0 then (bd1 (J_X8_letterAt (σ 141 18) σ) fun r107 => (if r107 = (59 : Int32) then (J_X8_readRow_b120   x1 (1 : Int32) σ) else (J_X8_readRow_b120   x1 (0 : Int32) σ))) else (if x1 = (σ 141 21) then (bd1 (J_X8_letterAt (σ 141 18) σ) fun r107 => (if r107 = (59 : Int32) then (J_X8_readRow_b120   x1 (1 : Int32) σ) else (J_X8_readRow_b120   x1 (0 : Int32) σ))) else (J_X8_readRow_b120   x1 (0 : Int32) σ))))
set_option maxHeartbeats 4000000 in
theorem A_X8_readRow_b83 (K : KT) {N : Nat} (hN : NT ≤ N)  (x1 : Int32) (σ : Sg) : AG K mX8_readRow N (fun a : Int32 × Sg => (some (.int a.1), N, R0, a.2)) (J_X8_readRow_b83   x1 σ) 83 [some (.ref 141), some (.int x1), none] [] σ := by
  unfold J_X8_readRow_b83
  refine ag_iload_1 (q := 84) dX8_readRow_83 rfl ?_
  refine ag_if_le (tgt := 119) (q := 87) dX8_readRow_84 rfl rfl ?_ ?_
  · refine ag_iconst (q := 120) (v := 0) dX8_readRow_119 rfl (by decide) ?_
    exact A_X8_readRow_b120 K hN   x1 (0 : Int32) σ
  refine ag_aload_0 (q := 88) dX8_readRow_87 rfl ?_
  refine ag_getI (q := 91) dX8_readRow_88 rfl fl8_106 (Nat.lt_of_lt_of_le (by decide : 141 < NT) hN) (congrArg Prod.fst s_141) rfl ?_
  refine ag_if_eq (tgt := 102) (q := 94) dX8_readRow_91 rfl rfl ?_ ?_
  · refine ag_aload_0 (q := 103) dX8_readRow_102 rfl ?_
    refine ag_aload_0 (q := 104) dX8_readRow_103 rfl ?_
    refine ag_getI (q := 107) dX8_readRow_104 rfl fl8_125 (Nat.lt_of_lt_of_le (by decide : 141 < NT) hN) (congrArg Prod.fst s_141) rfl ?_
    refine ag_callV_pI (q := 110) (av := [.int _]) (rest := []) dX8_readRow_107 rfl lk8_128 (C_X8_letterAt hN (σ 141 18) _) (by decide) (Nat.le_of_ble_eq_true rfl) (Nat.lt_of_lt_of_le (by decide : 141 < NT) hN) (congrArg Prod.fst s_141) (by decide) (fun _ => rfl) (Nat.le_of_ble_eq_true rfl) rfl (fun r107 e107 => ?_)
    refine ag_bipush (q := 112) (v := 59) dX8_readRow_110 rfl (by decide) ?_
    refine ag_icmp_ne (tgt := 119) (q := 115) dX8_readRow_112 rfl rfl ?_ ?_
    · refine ag_iconst (q := 120) (v := 0) dX8_readRow_119 rfl (by decide) ?_
      exact A_X8_readRow_b120 K hN   x1 (0 : Int32) σ
    refine ag_iconst (q := 116) (v := 1) dX8_readRow_115 rfl (by decide) ?_
    refine ag_goto (q := 120) dX8_readRow_116 rfl ?_
    exact A_X8_readRow_b120 K hN   x1 (1 : Int32) σ
  refine ag_iload_1 (q := 95) dX8_readRow_94 rfl ?_
  refine ag_aload_0 (q := 96) dX8_readRow_95 rfl ?_
  refine ag_getI (q := 99) dX8_readRow_96 rfl fl8_103 (Nat.lt_of_lt_of_le (by decide : 141 < NT) hN) (congrArg Prod.fst s_141) rfl ?_
  refine ag_icmp_ne (tgt := 119) (q := 102) dX8_readRow_99 rfl rfl ?_ ?_
  · refine ag_iconst (q := 120) (v := 0) dX8_readRow_119 rfl (by decide) ?_
    exact A_X8_readRow_b120 K hN   x1 (0 : Int32) σ
  refine ag_aload_0 (q := 103) dX8_readRow_102 rfl ?_
  refine ag_aload_0 (q := 104) dX8_readRow_103 rfl ?_
  refine ag_getI (q := 107) dX8_readRow_104 rfl fl8_125 (Nat.lt_of_lt_of_le (by decide : 141 < NT) hN) (congrArg Prod.fst s_141) rfl ?_
  refine ag_callV_pI (q := 110) (av := [.int _]) (rest := []) dX8_readRow_107 rfl lk8_128 (C_X8_letterAt hN (σ 141 18) _) (by decide) (Nat.le_of_ble_eq_true rfl) (Nat.lt_of_lt_of_le (by decide : 141 < NT) hN) (congrArg Prod.fst s_141) (by decide) (fun _ => rfl) (Nat.le_of_ble_eq_true rfl) rfl (fun r107 e107 => ?_)
  refine ag_bipush (q := 112) (v := 59) dX8_readRow_110 rfl (by decide) ?_
  refine ag_icmp_ne (tgt := 119) (q := 115) dX8_readRow_112 rfl rfl ?_ ?_
  · refine ag_iconst (q := 120) (v := 0) dX8_readRow_119 rfl (by decide) ?_
    exact A_X8_readRow_b120 K hN   x1 (0 : Int32) σ
  refine ag_iconst (q := 116) (v := 1) dX8_readRow_115 rfl (by decide) ?_
  refine ag_goto (q := 120) dX8_readRow_116 rfl ?_
  exact A_X8_readRow_b120 K hN   x1 (1 : Int32) σ
def J_X8_readRow_b25  : Nat → Int32 → Sg → Option (Int32 × Sg)
  | 0, _, _ => none
  | k + 1, x1, σ =>
    (bd1 (J_X8_letterAt (σ 141 18) σ) fun r30 => (bd1 (J_X8_isFigure r30 σ) fun r33 => (if r33 = 0 then (J_X8_readRow_b83   x1 σ) else (if (6 : Int32) ≤ x1 then (J_X8_readRow_b83   x1 σ) else (bd1 (J_X8_letterAt (σ 141 18) σ) fun r60 => (if inb ((σ 141 20) + x1) 36 = true then (J_X8_readRow_b25   k (x1 + (1)) (up (up σ 152 ((σ 141 20) + x1).toNatClampNeg (r60 - (48 : Int32))) 141 18 (((up σ 152 ((σ 141 20) + x1).toNatClampNeg (r60 - (48 : Int32))) 141 18) + (1 : Int32)))) else none))))))
set_option maxHeartbeats 4000000 in
theorem A_X8_readRow_b25 (K : KT) {N : Nat} (hN : NT ≤ N)  : ∀ (k : Nat) (x1 : Int32) (σ : Sg), AG K mX8_readRow N (fun a : Int32 × Sg => (some (.int a.1), N, R0, a.2)) (J_X8_readRow_b25   k x1 σ) 25 [some (.ref 141), some (.int x1), none] [] σ := by
  intro k
  induction k with
  | zero => intro x1 σ; exact ag_none
  | succ k ih =>
    intro x1 σ
    rw [J_X8_readRow_b25]
    refine ag_aload_0 (q := 26) dX8_readRow_25 rfl ?_
    refine ag_aload_0 (q := 27) dX8_readRow_26 rfl ?_
    refine ag_getI (q := 30) dX8_readRow_27 rfl fl8_125 (Nat.lt_of_lt_of_le (by decide : 141 < NT) hN) (congrArg Prod.fst s_141) rfl ?_
    refine ag_callV_pI (q := 33) (av := [.int _]) (rest := []) dX8_readRow_30 rfl lk8_128 (C_X8_letterAt hN (σ 141 18) _) (by decide) (Nat.le_of_ble_eq_true rfl) (Nat.lt_of_lt_of_le (by decide : 141 < NT) hN) (congrArg Prod.fst s_141) (by decide) (fun _ => rfl) (Nat.le_of_ble_eq_true rfl) rfl (fun r30 e30 => ?_)
    refine ag_callS_pI (q := 36) (av := [.int _]) (rest := []) dX8_readRow_33 rfl lk8_132 (C_X8_isFigure hN r30 _) (by decide) (Nat.le_of_ble_eq_true rfl) (fun _ => rfl) (Nat.le_of_ble_eq_true rfl) rfl (fun r33 e33 => ?_)
    refine ag_if_eq (tgt := 83) (q := 39) dX8_readRow_36 rfl rfl ?_ ?_
    · exact A_X8_readRow_b83 K hN   x1 σ
    refine ag_iload_1 (q := 40) dX8_readRow_39 rfl ?_
    refine ag_bipush (q := 42) (v := 6) dX8_readRow_40 rfl (by decide) ?_
    refine ag_icmp_ge (tgt := 83) (q := 45) dX8_readRow_42 rfl rfl ?_ ?_
    · exact A_X8_readRow_b83 K hN   x1 σ
    refine ag_aload_0 (q := 46) dX8_readRow_45 rfl ?_
    refine ag_getR (q := 49) dX8_readRow_46 rfl fl8_40 (Nat.lt_of_lt_of_le (by decide : 141 < NT) hN) (congrArg Prod.fst s_141) rfl r_141_22 ?_
    refine ag_aload_0 (q := 50) dX8_readRow_49 rfl ?_
    refine ag_getI (q := 53) dX8_readRow_50 rfl fl8_106 (Nat.lt_of_lt_of_le (by decide : 141 < NT) hN) (congrArg Prod.fst s_141) rfl ?_
    refine ag_iload_1 (q := 54) dX8_readRow_53 rfl ?_
    refine ag_iadd (q := 55) dX8_readRow_54 rfl ?_
    refine ag_aload_0 (q := 56) dX8_readRow_55 rfl ?_
    refine ag_aload_0 (q := 57) dX8_readRow_56 rfl ?_
    refine ag_getI (q := 60) dX8_readRow_57 rfl fl8_125 (Nat.lt_of_lt_of_le (by decide : 141 < NT) hN) (congrArg Prod.fst s_141) rfl ?_
    refine ag_callV_pI (q := 63) (av := [.int _]) (rest := [.int _, .ref _]) dX8_readRow_60 rfl lk8_128 (C_X8_letterAt hN (σ 141 18) _) (by decide) (Nat.le_of_ble_eq_true rfl) (Nat.lt_of_lt_of_le (by decide : 141 < NT) hN) (congrArg Prod.fst s_141) (by decide) (fun _ => rfl) (Nat.le_of_ble_eq_true rfl) rfl (fun r60 e60 => ?_)
    refine ag_bipush (q := 65) (v := 48) dX8_readRow_63 rfl (by decide) ?_
    refine ag_isub (q := 66) dX8_readRow_65 rfl ?_
    refine ag_iast (q := 67) dX8_readRow_66 rfl (Nat.lt_of_lt_of_le (by decide : 152 < NT) hN) s_152 ?_
    refine ag_iinc_1 (q := 70) (d := (1)) dX8_readRow_67 rfl (Nat.le_of_ble_eq_true rfl) rfl (by decide) ?_
    refine ag_aload_0 (q := 71) dX8_readRow_70 rfl ?_
    refine ag_dup (q := 72) dX8_readRow_71 rfl rfl ?_
    refine ag_getI (q := 75) dX8_readRow_72 rfl fl8_125 (Nat.lt_of_lt_of_le (by decide : 141 < NT) hN) (congrArg Prod.fst s_141) rfl ?_
    refine ag_iconst (q := 76) (v := 1) dX8_readRow_75 rfl (by decide) ?_
    refine ag_iadd (q := 77) dX8_readRow_76 rfl ?_
    refine ag_putI (q := 80) dX8_readRow_77 rfl fl8_125 (Nat.lt_of_lt_of_le (by decide : 141 < NT) hN) (congrArg Prod.fst s_141) rfl ?_
    refine ag_goto (q := 25) dX8_readRow_80 rfl ?_
    exact ih (x1 + (1)) (up (up σ 152 ((σ 141 20) + x1).toNatClampNeg (r60 - (48 : Int32))) 141 18 (((up σ 152 ((σ 141 20) + x1).toNatClampNeg (r60 - (48 : Int32))) 141 18) + (1 : Int32)))
def J_X8_readRow  (σ : Sg) : Option (Int32 × Sg) :=
  (if (σ 141 20) ≤ 0 then (J_X8_readRow_b25   FU (0 : Int32) σ) else (if (σ 141 21) = 0 then none else (if ((σ 141 20) / (σ 141 21)) = (6 : Int32) then (some ((0 : Int32), σ)) else (J_X8_readRow_b25   FU (0 : Int32) σ))))
set_option maxHeartbeats 4000000 in
theorem A_X8_readRow (K : KT) {N : Nat} (hN : NT ≤ N)  (σ : Sg) : AG K mX8_readRow N (fun a : Int32 × Sg => (some (.int a.1), N, R0, a.2)) (J_X8_readRow  σ) 0 [some (.ref 141), none, none] [] σ := by
  unfold J_X8_readRow
  refine ag_iconst (q := 1) (v := 0) dX8_readRow_0 rfl (by decide) ?_
  refine ag_istore_1 (q := 2) dX8_readRow_1 rfl (Nat.le_of_ble_eq_true rfl) rfl ?_
  refine ag_aload_0 (q := 3) dX8_readRow_2 rfl ?_
  refine ag_getI (q := 6) dX8_readRow_3 rfl fl8_106 (Nat.lt_of_lt_of_le (by decide : 141 < NT) hN) (congrArg Prod.fst s_141) rfl ?_
  refine ag_if_le (tgt := 25) (q := 9) dX8_readRow_6 rfl rfl ?_ ?_
  · exact A_X8_readRow_b25 K hN   FU (0 : Int32) σ
  refine ag_aload_0 (q := 10) dX8_readRow_9 rfl ?_
  refine ag_getI (q := 13) dX8_readRow_10 rfl fl8_106 (Nat.lt_of_lt_of_le (by decide : 141 < NT) hN) (congrArg Prod.fst s_141) rfl ?_
  refine ag_aload_0 (q := 14) dX8_readRow_13 rfl ?_
  refine ag_getI (q := 17) dX8_readRow_14 rfl fl8_103 (Nat.lt_of_lt_of_le (by decide : 141 < NT) hN) (congrArg Prod.fst s_141) rfl ?_
  refine ag_idiv (q := 18) dX8_readRow_17 rfl ?_
  refine ag_bipush (q := 20) (v := 6) dX8_readRow_18 rfl (by decide) ?_
  refine ag_icmp_ne (tgt := 25) (q := 23) dX8_readRow_20 rfl rfl ?_ ?_
  · exact A_X8_readRow_b25 K hN   FU (0 : Int32) σ
  refine ag_iconst (q := 24) (v := 0) dX8_readRow_23 rfl (by decide) ?_
  exact ag_zretK dX8_readRow_24 rfl (by decide) rfl
theorem C_X8_readRow {N : Nat} (hN : NT ≤ N)  (σ : Sg) : ∀ r s', J_X8_readRow  σ = some (r, s') → AMc yX8_readRow mX8_readRow [.ref 141] N R0 σ (some (.int r), N, R0, s') := fun r s' e => AMc.of (L := [some (.ref 141), none, none]) (by decide) rfl (fun _ => rfl) (fun _ => Nat.le_of_ble_eq_true rfl) (Nat.le_refl _) (fun K => A_X8_readRow K hN  σ _ e)
def J_X8_isDry (a1 : Int32) (σ : Sg) : Option Int32 :=
  (bd1 (J_X8_isTold a1 (0 : Int32) ((σ 141 20) - (1 : Int32)) σ) fun r9 => (if r9 = 0 then (some (0 : Int32)) else (if inb a1 3 = true then (if inb (σ 151 a1.toNatClampNeg) 36 = true then (if (σ 152 (σ 151 a1.toNatClampNeg).toNatClampNeg) = (9 : Int32) then (some (0 : Int32)) else (some (1 : Int32))) else none) else none)))
set_option maxHeartbeats 4000000 in
theorem A_X8_isDry (K : KT) {N : Nat} (hN : NT ≤ N) (a1 : Int32) (σ : Sg) : AG K mX8_isDry N (fun a : Int32 => (some (.int a), N, R0, σ)) (J_X8_isDry a1 σ) 0 [some (.ref 141), some (.int a1)] [] σ := by
  unfold J_X8_isDry
  refine ag_aload_0 (q := 1) dX8_isDry_0 rfl ?_
  refine ag_iload_1 (q := 2) dX8_isDry_1 rfl ?_
  refine ag_iconst (q := 3) (v := 0) dX8_isDry_2 rfl (by decide) ?_
  refine ag_aload_0 (q := 4) dX8_isDry_3 rfl ?_
  refine ag_getI (q := 7) dX8_isDry_4 rfl fl8_106 (Nat.lt_of_lt_of_le (by decide : 141 < NT) hN) (congrArg Prod.fst s_141) rfl ?_
  refine ag_iconst (q := 8) (v := 1) dX8_isDry_7 rfl (by decide) ?_
  refine ag_isub (q := 9) dX8_isDry_8 rfl ?_
  refine ag_callV_pI (q := 12) (av := [.int _, .int _, .int _]) (rest := []) dX8_isDry_9 rfl lk8_136 (C_X8_isTold hN a1 (0 : Int32) ((σ 141 20) - (1 : Int32)) _) (by decide) (Nat.le_of_ble_eq_true rfl) (Nat.lt_of_lt_of_le (by decide : 141 < NT) hN) (congrArg Prod.fst s_141) (by decide) (fun _ => rfl) (Nat.le_of_ble_eq_true rfl) rfl (fun r9 e9 => ?_)
  refine ag_if_eq (tgt := 35) (q := 15) dX8_isDry_12 rfl rfl ?_ ?_
  · refine ag_iconst (q := 36) (v := 0) dX8_isDry_35 rfl (by decide) ?_
    exact ag_zretK dX8_isDry_36 rfl (by decide) rfl
  refine ag_aload_0 (q := 16) dX8_isDry_15 rfl ?_
  refine ag_getR (q := 19) dX8_isDry_16 rfl fl8_40 (Nat.lt_of_lt_of_le (by decide : 141 < NT) hN) (congrArg Prod.fst s_141) rfl r_141_22 ?_
  refine ag_aload_0 (q := 20) dX8_isDry_19 rfl ?_
  refine ag_getR (q := 23) dX8_isDry_20 rfl fl8_37 (Nat.lt_of_lt_of_le (by decide : 141 < NT) hN) (congrArg Prod.fst s_141) rfl r_141_19 ?_
  refine ag_iload_1 (q := 24) dX8_isDry_23 rfl ?_
  refine ag_iald (q := 25) dX8_isDry_24 rfl (Nat.lt_of_lt_of_le (by decide : 151 < NT) hN) s_151 ?_
  refine ag_iald (q := 26) dX8_isDry_25 rfl (Nat.lt_of_lt_of_le (by decide : 152 < NT) hN) s_152 ?_
  refine ag_bipush (q := 28) (v := 9) dX8_isDry_26 rfl (by decide) ?_
  refine ag_icmp_eq (tgt := 35) (q := 31) dX8_isDry_28 rfl rfl ?_ ?_
  · refine ag_iconst (q := 36) (v := 0) dX8_isDry_35 rfl (by decide) ?_
    exact ag_zretK dX8_isDry_36 rfl (by decide) rfl
  refine ag_iconst (q := 32) (v := 1) dX8_isDry_31 rfl (by decide) ?_
  refine ag_goto (q := 36) dX8_isDry_32 rfl ?_
  exact ag_zretK dX8_isDry_36 rfl (by decide) rfl
theorem C_X8_isDry {N : Nat} (hN : NT ≤ N) (a1 : Int32) (σ : Sg) : ∀ r, J_X8_isDry a1 σ = some r → AMc yX8_isDry mX8_isDry [.ref 141, .int a1] N R0 σ (some (.int r), N, R0, σ) := fun r e => AMc.of (L := [some (.ref 141), some (.int a1)]) (by decide) rfl (fun _ => rfl) (fun _ => Nat.le_of_ble_eq_true rfl) (Nat.le_refl _) (fun K => A_X8_isDry K hN a1 σ _ e)
def J_X8_readBeastItem_b51  : Nat → Int32 → Int32 → Sg → Option (Int32 × Sg)
  | 0, _, _, _ => none
  | k + 1, x1, x2, σ =>
    (if (σ 141 23) ≤ x2 then (if x1 = 0 then (if x1 = 0 ∨ x1 = 1 then some (x1, σ) else none) else (bd2 (J_X8_tellsBeast (σ 151 0) (σ 151 1) (σ 151 2) σ) fun r113 s113 => (if x1 = 0 ∨ x1 = 1 then some (x1, s113) else none))) else (if x1 = 0 then (J_X8_readBeastItem_b51   k (0 : Int32) (x2 + (1)) σ) else (if inb x2 8 = true then (if (σ 155 x2.toNatClampNeg) = (σ 151 2) then (J_X8_readBeastItem_b51   k (0 : Int32) (x2 + (1)) σ) else (J_X8_readBeastItem_b51   k (1 : Int32) (x2 + (1)) σ)) else none)))
set_option maxHeartbeats 4000000 in
theorem A_X8_readBeastItem_b51 (K : KT) {N : Nat} (hN : NT ≤ N)  : ∀ (k : Nat) (x1 : Int32) (x2 : Int32) (σ : Sg), AG K mX8_readBeastItem N (fun a : Int32 × Sg => (some (.int a.1), N, R0, a.2)) (J_X8_readBeastItem_b51   k x1 x2 σ) 51 [some (.ref 141), some (.int x1), some (.int x2)] [] σ := by
  intro k
  induction k with
  | zero => intro x1 x2 σ; exact ag_none
  | succ k ih =>
    intro x1 x2 σ
    rw [J_X8_readBeastItem_b51]
    refine ag_iload_2 (q := 52) dX8_readBeastItem_51 rfl ?_
    refine ag_aload_0 (q := 53) dX8_readBeastItem_52 rfl ?_
    refine ag_getI (q := 56) dX8_readBeastItem_53 rfl fl8_109 (Nat.lt_of_lt_of_le (by decide : 141 < NT) hN) (congrArg Prod.fst s_141) rfl ?_
    refine ag_icmp_ge (tgt := 90) (q := 59) dX8_readBeastItem_56 rfl rfl ?_ ?_
    · refine ag_iload_1 (q := 91) dX8_readBeastItem_90 rfl ?_
      refine ag_if_eq (tgt := 116) (q := 94) dX8_readBeastItem_91 rfl rfl ?_ ?_
      · refine ag_iload_1 (q := 117) dX8_readBeastItem_116 rfl ?_
        exact ag_zret dX8_readBeastItem_117 rfl rfl
      refine ag_aload_0 (q := 95) dX8_readBeastItem_94 rfl ?_
      refine ag_aload_0 (q := 96) dX8_readBeastItem_95 rfl ?_
      refine ag_getR (q := 99) dX8_readBeastItem_96 rfl fl8_37 (Nat.lt_of_lt_of_le (by decide : 141 < NT) hN) (congrArg Prod.fst s_141) rfl r_141_19 ?_
      refine ag_iconst (q := 100) (v := 0) dX8_readBeastItem_99 rfl (by decide) ?_
      refine ag_ialdK (q := 101) (k := 0) dX8_readBeastItem_100 rfl (Nat.lt_of_lt_of_le (by decide : 151 < NT) hN) s_151 (by decide) (by decide) ?_
      refine ag_aload_0 (q := 102) dX8_readBeastItem_101 rfl ?_
      refine ag_getR (q := 105) dX8_readBeastItem_102 rfl fl8_37 (Nat.lt_of_lt_of_le (by decide : 141 < NT) hN) (congrArg Prod.fst s_141) rfl r_141_19 ?_
      refine ag_iconst (q := 106) (v := 1) dX8_readBeastItem_105 rfl (by decide) ?_
      refine ag_ialdK (q := 107) (k := 1) dX8_readBeastItem_106 rfl (Nat.lt_of_lt_of_le (by decide : 151 < NT) hN) s_151 (by decide) (by decide) ?_
      refine ag_aload_0 (q := 108) dX8_readBeastItem_107 rfl ?_
      refine ag_getR (q := 111) dX8_readBeastItem_108 rfl fl8_37 (Nat.lt_of_lt_of_le (by decide : 141 < NT) hN) (congrArg Prod.fst s_141) rfl r_141_19 ?_
      refine ag_iconst (q := 112) (v := 2) dX8_readBeastItem_111 rfl (by decide) ?_
      refine ag_ialdK (q := 113) (k := 2) dX8_readBeastItem_112 rfl (Nat.lt_of_lt_of_le (by decide : 151 < NT) hN) s_151 (by decide) (by decide) ?_
      refine ag_callV_mU (q := 116) (av := [.int _, .int _, .int _]) (rest := []) dX8_readBeastItem_113 rfl lk8_86 (C_X8_tellsBeast hN (σ 151 0) (σ 151 1) (σ 151 2) _) (by decide) (Nat.le_of_ble_eq_true rfl) (Nat.lt_of_lt_of_le (by decide : 141 < NT) hN) (congrArg Prod.fst s_141) (by decide) (fun _ => rfl) (Nat.le_of_ble_eq_true rfl) rfl (fun r113 s113 e113 => ?_)
      refine ag_iload_1 (q := 117) dX8_readBeastItem_116 rfl ?_
      exact ag_zret dX8_readBeastItem_117 rfl rfl
    refine ag_iload_1 (q := 60) dX8_readBeastItem_59 rfl ?_
    refine ag_if_eq (tgt := 82) (q := 63) dX8_readBeastItem_60 rfl rfl ?_ ?_
    · refine ag_iconst (q := 83) (v := 0) dX8_readBeastItem_82 rfl (by decide) ?_
      refine ag_istore_1 (q := 84) dX8_readBeastItem_83 rfl (Nat.le_of_ble_eq_true rfl) rfl ?_
      refine ag_iinc_2 (q := 87) (d := (1)) dX8_readBeastItem_84 rfl (Nat.le_of_ble_eq_true rfl) rfl (by decide) ?_
      refine ag_goto (q := 51) dX8_readBeastItem_87 rfl ?_
      exact ih (0 : Int32) (x2 + (1)) σ
    refine ag_aload_0 (q := 64) dX8_readBeastItem_63 rfl ?_
    refine ag_getR (q := 67) dX8_readBeastItem_64 rfl fl8_49 (Nat.lt_of_lt_of_le (by decide : 141 < NT) hN) (congrArg Prod.fst s_141) rfl r_141_26 ?_
    refine ag_iload_2 (q := 68) dX8_readBeastItem_67 rfl ?_
    refine ag_iald (q := 69) dX8_readBeastItem_68 rfl (Nat.lt_of_lt_of_le (by decide : 155 < NT) hN) s_155 ?_
    refine ag_aload_0 (q := 70) dX8_readBeastItem_69 rfl ?_
    refine ag_getR (q := 73) dX8_readBeastItem_70 rfl fl8_37 (Nat.lt_of_lt_of_le (by decide : 141 < NT) hN) (congrArg Prod.fst s_141) rfl r_141_19 ?_
    refine ag_iconst (q := 74) (v := 2) dX8_readBeastItem_73 rfl (by decide) ?_
    refine ag_ialdK (q := 75) (k := 2) dX8_readBeastItem_74 rfl (Nat.lt_of_lt_of_le (by decide : 151 < NT) hN) s_151 (by decide) (by decide) ?_
    refine ag_icmp_eq (tgt := 82) (q := 78) dX8_readBeastItem_75 rfl rfl ?_ ?_
    · refine ag_iconst (q := 83) (v := 0) dX8_readBeastItem_82 rfl (by decide) ?_
      refine ag_istore_1 (q := 84) dX8_readBeastItem_83 rfl (Nat.le_of_ble_eq_true rfl) rfl ?_
      refine ag_iinc_2 (q := 87) (d := (1)) dX8_readBeastItem_84 rfl (Nat.le_of_ble_eq_true rfl) rfl (by decide) ?_
      refine ag_goto (q := 51) dX8_readBeastItem_87 rfl ?_
      exact ih (0 : Int32) (x2 + (1)) σ
    refine ag_iconst (q := 79) (v := 1) dX8_readBeastItem_78 rfl (by decide) ?_
    refine ag_goto (q := 83) dX8_readBeastItem_79 rfl ?_
    refine ag_istore_1 (q := 84) dX8_readBeastItem_83 rfl (Nat.le_of_ble_eq_true rfl) rfl ?_
    refine ag_iinc_2 (q := 87) (d := (1)) dX8_readBeastItem_84 rfl (Nat.le_of_ble_eq_true rfl) rfl (by decide) ?_
    refine ag_goto (q := 51) dX8_readBeastItem_87 rfl ?_
    exact ih (1 : Int32) (x2 + (1)) σ
def J_X8_readBeastItem  (σ : Sg) : Option (Int32 × Sg) :=
  (if (σ 141 23) = (8 : Int32) then (some ((0 : Int32), σ)) else (bd2 (J_X8_readNumbers (3 : Int32) σ) fun r11 s11 => (if r11 = 0 then (some ((0 : Int32), s11)) else (bd1 (J_X8_isTold (0 : Int32) (0 : Int32) (3 : Int32) s11) fun r21 => (if r21 = 0 then (some ((0 : Int32), s11)) else (bd1 (J_X8_isTold (1 : Int32) (0 : Int32) (1 : Int32) s11) fun r31 => (if r31 = 0 then (some ((0 : Int32), s11)) else (bd1 (J_X8_isDry (2 : Int32) s11) fun r39 => (if r39 = 0 then (some ((0 : Int32), s11)) else (J_X8_readBeastItem_b51   FU (1 : Int32) (0 : Int32) s11))))))))))
set_option maxHeartbeats 4000000 in
theorem A_X8_readBeastItem (K : KT) {N : Nat} (hN : NT ≤ N)  (σ : Sg) : AG K mX8_readBeastItem N (fun a : Int32 × Sg => (some (.int a.1), N, R0, a.2)) (J_X8_readBeastItem  σ) 0 [some (.ref 141), none, none] [] σ := by
  unfold J_X8_readBeastItem
  refine ag_aload_0 (q := 1) dX8_readBeastItem_0 rfl ?_
  refine ag_getI (q := 4) dX8_readBeastItem_1 rfl fl8_109 (Nat.lt_of_lt_of_le (by decide : 141 < NT) hN) (congrArg Prod.fst s_141) rfl ?_
  refine ag_bipush (q := 6) (v := 8) dX8_readBeastItem_4 rfl (by decide) ?_
  refine ag_icmp_eq (tgt := 45) (q := 9) dX8_readBeastItem_6 rfl rfl ?_ ?_
  · refine ag_iconst (q := 46) (v := 0) dX8_readBeastItem_45 rfl (by decide) ?_
    exact ag_zretK dX8_readBeastItem_46 rfl (by decide) rfl
  refine ag_aload_0 (q := 10) dX8_readBeastItem_9 rfl ?_
  refine ag_iconst (q := 11) (v := 3) dX8_readBeastItem_10 rfl (by decide) ?_
  refine ag_callV_mI (q := 14) (av := [.int _]) (rest := []) dX8_readBeastItem_11 rfl lk8_139 (C_X8_readNumbers hN (3 : Int32) _) (by decide) (Nat.le_of_ble_eq_true rfl) (Nat.lt_of_lt_of_le (by decide : 141 < NT) hN) (congrArg Prod.fst s_141) (by decide) (fun _ => rfl) (Nat.le_of_ble_eq_true rfl) rfl (fun r11 s11 e11 => ?_)
  refine ag_if_eq (tgt := 45) (q := 17) dX8_readBeastItem_14 rfl rfl ?_ ?_
  · refine ag_iconst (q := 46) (v := 0) dX8_readBeastItem_45 rfl (by decide) ?_
    exact ag_zretK dX8_readBeastItem_46 rfl (by decide) rfl
  refine ag_aload_0 (q := 18) dX8_readBeastItem_17 rfl ?_
  refine ag_iconst (q := 19) (v := 0) dX8_readBeastItem_18 rfl (by decide) ?_
  refine ag_iconst (q := 20) (v := 0) dX8_readBeastItem_19 rfl (by decide) ?_
  refine ag_iconst (q := 21) (v := 3) dX8_readBeastItem_20 rfl (by decide) ?_
  refine ag_callV_pI (q := 24) (av := [.int _, .int _, .int _]) (rest := []) dX8_readBeastItem_21 rfl lk8_136 (C_X8_isTold hN (0 : Int32) (0 : Int32) (3 : Int32) _) (by decide) (Nat.le_of_ble_eq_true rfl) (Nat.lt_of_lt_of_le (by decide : 141 < NT) hN) (congrArg Prod.fst s_141) (by decide) (fun _ => rfl) (Nat.le_of_ble_eq_true rfl) rfl (fun r21 e21 => ?_)
  refine ag_if_eq (tgt := 45) (q := 27) dX8_readBeastItem_24 rfl rfl ?_ ?_
  · refine ag_iconst (q := 46) (v := 0) dX8_readBeastItem_45 rfl (by decide) ?_
    exact ag_zretK dX8_readBeastItem_46 rfl (by decide) rfl
  refine ag_aload_0 (q := 28) dX8_readBeastItem_27 rfl ?_
  refine ag_iconst (q := 29) (v := 1) dX8_readBeastItem_28 rfl (by decide) ?_
  refine ag_iconst (q := 30) (v := 0) dX8_readBeastItem_29 rfl (by decide) ?_
  refine ag_iconst (q := 31) (v := 1) dX8_readBeastItem_30 rfl (by decide) ?_
  refine ag_callV_pI (q := 34) (av := [.int _, .int _, .int _]) (rest := []) dX8_readBeastItem_31 rfl lk8_136 (C_X8_isTold hN (1 : Int32) (0 : Int32) (1 : Int32) _) (by decide) (Nat.le_of_ble_eq_true rfl) (Nat.lt_of_lt_of_le (by decide : 141 < NT) hN) (congrArg Prod.fst s_141) (by decide) (fun _ => rfl) (Nat.le_of_ble_eq_true rfl) rfl (fun r31 e31 => ?_)
  refine ag_if_eq (tgt := 45) (q := 37) dX8_readBeastItem_34 rfl rfl ?_ ?_
  · refine ag_iconst (q := 46) (v := 0) dX8_readBeastItem_45 rfl (by decide) ?_
    exact ag_zretK dX8_readBeastItem_46 rfl (by decide) rfl
  refine ag_aload_0 (q := 38) dX8_readBeastItem_37 rfl ?_
  refine ag_iconst (q := 39) (v := 2) dX8_readBeastItem_38 rfl (by decide) ?_
  refine ag_callV_pI (q := 42) (av := [.int _]) (rest := []) dX8_readBeastItem_39 rfl lk8_142 (C_X8_isDry hN (2 : Int32) _) (by decide) (Nat.le_of_ble_eq_true rfl) (Nat.lt_of_lt_of_le (by decide : 141 < NT) hN) (congrArg Prod.fst s_141) (by decide) (fun _ => rfl) (Nat.le_of_ble_eq_true rfl) rfl (fun r39 e39 => ?_)
  refine ag_if_ne (tgt := 47) (q := 45) dX8_readBeastItem_42 rfl rfl ?_ ?_
  · refine ag_iconst (q := 48) (v := 1) dX8_readBeastItem_47 rfl (by decide) ?_
    refine ag_istore_1 (q := 49) dX8_readBeastItem_48 rfl (Nat.le_of_ble_eq_true rfl) rfl ?_
    refine ag_iconst (q := 50) (v := 0) dX8_readBeastItem_49 rfl (by decide) ?_
    refine ag_istore_2 (q := 51) dX8_readBeastItem_50 rfl (Nat.le_of_ble_eq_true rfl) rfl ?_
    exact A_X8_readBeastItem_b51 K hN   FU (1 : Int32) (0 : Int32) s11
  refine ag_iconst (q := 46) (v := 0) dX8_readBeastItem_45 rfl (by decide) ?_
  exact ag_zretK dX8_readBeastItem_46 rfl (by decide) rfl
theorem C_X8_readBeastItem {N : Nat} (hN : NT ≤ N)  (σ : Sg) : ∀ r s', J_X8_readBeastItem  σ = some (r, s') → AMc yX8_readBeastItem mX8_readBeastItem [.ref 141] N R0 σ (some (.int r), N, R0, s') := fun r s' e => AMc.of (L := [some (.ref 141), none, none]) (by decide) rfl (fun _ => rfl) (fun _ => Nat.le_of_ble_eq_true rfl) (Nat.le_refl _) (fun K => A_X8_readBeastItem K hN  σ _ e)
def J_X8_readItem  (σ : Sg) : Option (Int32 × Sg) :=
  (bd1 (J_X8_letterAt (σ 141 18) σ) fun r5 => (if r5 = 98 then (bd2 (J_X8_readBeastItem  (up σ 141 18 ((σ 141 18) + (1 : Int32)))) fun r78 s78 => (if r78 = 0 ∨ r78 = 1 then some (r78, s78) else none)) else (if r5 = 104 then (bd2 (J_X8_readNumbers (1 : Int32) (up σ 141 18 ((σ 141 18) + (1 : Int32)))) fun r114 s114 => (if r114 = 0 then (some ((0 : Int32), s114)) else (bd1 (J_X8_isTold (0 : Int32) (1 : Int32) (9 : Int32) s114) fun r125 => (if r125 = 0 then (some ((0 : Int32), s114)) else (some ((1 : Int32), (up s114 141 28 (s114 151 0)))))))) else (if r5 = 114 then (bd2 (J_X8_readRow  (up σ 141 18 ((σ 141 18) + (1 : Int32)))) fun r73 s73 => (if r73 = 0 ∨ r73 = 1 then some (r73, s73) else none)) else (if r5 = 115 then (if ((up σ 141 18 ((σ 141 18) + (1 : Int32))) 141 29) = (9 : Int32) then (some ((0 : Int32), (up σ 141 18 ((σ 141 18) + (1 : Int32))))) else (bd2 (J_X8_readNumbers (1 : Int32) (up σ 141 18 ((σ 141 18) + (1 : Int32)))) fun r156 s156 => (if r156 = 0 then (some ((0 : Int32), s156)) else (bd1 (J_X8_isTold (0 : Int32) (0 : Int32) (1 : Int32) s156) fun r166 => (if r166 = 0 then (some ((0 : Int32), s156)) else (if inb (s156 141 29) 9 = true then (some ((1 : Int32), (up (up s156 156 (s156 141 29).toNatClampNeg (s156 151 0)) 141 29 (((up s156 156 (s156 141 29).toNatClampNeg (s156 151 0)) 141 29) + (1 : Int32))))) else none)))))) else (if r5 = 119 then (bd2 (J_X8_readNumbers (1 : Int32) (up σ 141 18 ((σ 141 18) + (1 : Int32)))) fun r84 s84 => (if r84 = 0 then (some ((0 : Int32), s84)) else (bd1 (J_X8_isDry (0 : Int32) s84) fun r92 => (if r92 = 0 then (some ((0 : Int32), s84)) else (some ((1 : Int32), (up s84 141 27 (s84 151 0)))))))) else (some ((0 : Int32), (up σ 141 18 ((σ 141 18) + (1 : Int32)))))))))))
set_option maxHeartbeats 4000000 in
theorem A_X8_readItem (K : KT) {N : Nat} (hN : NT ≤ N)  (σ : Sg) : AG K mX8_readItem N (fun a : Int32 × Sg => (some (.int a.1), N, R0, a.2)) (J_X8_readItem  σ) 0 [some (.ref 141), none] [] σ := by
  unfold J_X8_readItem
  refine ag_aload_0 (q := 1) dX8_readItem_0 rfl ?_
  refine ag_aload_0 (q := 2) dX8_readItem_1 rfl ?_
  refine ag_getI (q := 5) dX8_readItem_2 rfl fl8_125 (Nat.lt_of_lt_of_le (by decide : 141 < NT) hN) (congrArg Prod.fst s_141) rfl ?_
  refine ag_callV_pI (q := 8) (av := [.int _]) (rest := []) dX8_readItem_5 rfl lk8_128 (C_X8_letterAt hN (σ 141 18) _) (by decide) (Nat.le_of_ble_eq_true rfl) (Nat.lt_of_lt_of_le (by decide : 141 < NT) hN) (congrArg Prod.fst s_141) (by decide) (fun _ => rfl) (Nat.le_of_ble_eq_true rfl) rfl (fun r5 e5 => ?_)
  refine ag_istore_1 (q := 9) dX8_readItem_8 rfl (Nat.le_of_ble_eq_true rfl) rfl ?_
  refine ag_aload_0 (q := 10) dX8_readItem_9 rfl ?_
  refine ag_dup (q := 11) dX8_readItem_10 rfl rfl ?_
  refine ag_getI (q := 14) dX8_readItem_11 rfl fl8_125 (Nat.lt_of_lt_of_le (by decide : 141 < NT) hN) (congrArg Prod.fst s_141) rfl ?_
  refine ag_iconst (q := 15) (v := 1) dX8_readItem_14 rfl (by decide) ?_
  refine ag_iadd (q := 16) dX8_readItem_15 rfl ?_
  refine ag_putI (q := 19) dX8_readItem_16 rfl fl8_125 (Nat.lt_of_lt_of_le (by decide : 141 < NT) hN) (congrArg Prod.fst s_141) rfl ?_
  refine ag_iload_1 (q := 20) dX8_readItem_19 rfl ?_
  refine ag_ite (fun z98 => ?_) (fun z98 => ?_)
  · refine ag_lsw (q := 77) (off := 57) dX8_readItem_20 (by decide) (by rw [z98]; rfl) rfl ?_
    refine ag_aload_0 (q := 78) dX8_readItem_77 rfl ?_
    refine ag_callV_mI (q := 81) (av := []) (rest := []) dX8_readItem_78 rfl lk8_149 (C_X8_readBeastItem hN  _) (by decide) (Nat.le_of_ble_eq_true rfl) (Nat.lt_of_lt_of_le (by decide : 141 < NT) hN) (congrArg Prod.fst s_141) (by decide) (fun _ => rfl) (Nat.le_of_ble_eq_true rfl) rfl (fun r78 s78 e78 => ?_)
    exact ag_zret dX8_readItem_81 rfl rfl
  refine ag_ite (fun z104 => ?_) (fun z104 => ?_)
  · refine ag_lsw (q := 112) (off := 92) dX8_readItem_20 (by decide) (by rw [z104]; rfl) rfl ?_
    refine ag_aload_0 (q := 113) dX8_readItem_112 rfl ?_
    refine ag_iconst (q := 114) (v := 1) dX8_readItem_113 rfl (by decide) ?_
    refine ag_callV_mI (q := 117) (av := [.int _]) (rest := []) dX8_readItem_114 rfl lk8_139 (C_X8_readNumbers hN (1 : Int32) _) (by decide) (Nat.le_of_ble_eq_true rfl) (Nat.lt_of_lt_of_le (by decide : 141 < NT) hN) (congrArg Prod.fst s_141) (by decide) (fun _ => rfl) (Nat.le_of_ble_eq_true rfl) rfl (fun r114 s114 e114 => ?_)
    refine ag_if_eq (tgt := 131) (q := 120) dX8_readItem_117 rfl rfl ?_ ?_
    · refine ag_iconst (q := 132) (v := 0) dX8_readItem_131 rfl (by decide) ?_
      exact ag_zretK dX8_readItem_132 rfl (by decide) rfl
    refine ag_aload_0 (q := 121) dX8_readItem_120 rfl ?_
    refine ag_iconst (q := 122) (v := 0) dX8_readItem_121 rfl (by decide) ?_
    refine ag_iconst (q := 123) (v := 1) dX8_readItem_122 rfl (by decide) ?_
    refine ag_bipush (q := 125) (v := 9) dX8_readItem_123 rfl (by decide) ?_
    refine ag_callV_pI (q := 128) (av := [.int _, .int _, .int _]) (rest := []) dX8_readItem_125 rfl lk8_136 (C_X8_isTold hN (0 : Int32) (1 : Int32) (9 : Int32) _) (by decide) (Nat.le_of_ble_eq_true rfl) (Nat.lt_of_lt_of_le (by decide : 141 < NT) hN) (congrArg Prod.fst s_141) (by decide) (fun _ => rfl) (Nat.le_of_ble_eq_true rfl) rfl (fun r125 e125 => ?_)
    refine ag_if_ne (tgt := 133) (q := 131) dX8_readItem_128 rfl rfl ?_ ?_
    · refine ag_aload_0 (q := 134) dX8_readItem_133 rfl ?_
      refine ag_aload_0 (q := 135) dX8_readItem_134 rfl ?_
      refine ag_getR (q := 138) dX8_readItem_135 rfl fl8_37 (Nat.lt_of_lt_of_le (by decide : 141 < NT) hN) (congrArg Prod.fst s_141) rfl r_141_19 ?_
      refine ag_iconst (q := 139) (v := 0) dX8_readItem_138 rfl (by decide) ?_
      refine ag_ialdK (q := 140) (k := 0) dX8_readItem_139 rfl (Nat.lt_of_lt_of_le (by decide : 151 < NT) hN) s_151 (by decide) (by decide) ?_
      refine ag_putI (q := 143) dX8_readItem_140 rfl fl8_94 (Nat.lt_of_lt_of_le (by decide : 141 < NT) hN) (congrArg Prod.fst s_141) rfl ?_
      refine ag_iconst (q := 144) (v := 1) dX8_readItem_143 rfl (by decide) ?_
      exact ag_zretK dX8_readItem_144 rfl (by decide) rfl
    refine ag_iconst (q := 132) (v := 0) dX8_readItem_131 rfl (by decide) ?_
    exact ag_zretK dX8_readItem_132 rfl (by decide) rfl
  refine ag_ite (fun z114 => ?_) (fun z114 => ?_)
  · refine ag_lsw (q := 72) (off := 52) dX8_readItem_20 (by decide) (by rw [z114]; rfl) rfl ?_
    refine ag_aload_0 (q := 73) dX8_readItem_72 rfl ?_
    refine ag_callV_mI (q := 76) (av := []) (rest := []) dX8_readItem_73 rfl lk8_145 (C_X8_readRow hN  _) (by decide) (Nat.le_of_ble_eq_true rfl) (Nat.lt_of_lt_of_le (by decide : 141 < NT) hN) (congrArg Prod.fst s_141) (by decide) (fun _ => rfl) (Nat.le_of_ble_eq_true rfl) rfl (fun r73 s73 e73 => ?_)
    exact ag_zret dX8_readItem_76 rfl rfl
  refine ag_ite (fun z115 => ?_) (fun z115 => ?_)
  · refine ag_lsw (q := 145) (off := 125) dX8_readItem_20 (by decide) (by rw [z115]; rfl) rfl ?_
    refine ag_aload_0 (q := 146) dX8_readItem_145 rfl ?_
    refine ag_getI (q := 149) dX8_readItem_146 rfl fl8_97 (Nat.lt_of_lt_of_le (by decide : 141 < NT) hN) (congrArg Prod.fst s_141) rfl ?_
    refine ag_bipush (q := 151) (v := 9) dX8_readItem_149 rfl (by decide) ?_
    refine ag_icmp_eq (tgt := 172) (q := 154) dX8_readItem_151 rfl rfl ?_ ?_
    · refine ag_iconst (q := 173) (v := 0) dX8_readItem_172 rfl (by decide) ?_
      exact ag_zretK dX8_readItem_173 rfl (by decide) rfl
    refine ag_aload_0 (q := 155) dX8_readItem_154 rfl ?_
    refine ag_iconst (q := 156) (v := 1) dX8_readItem_155 rfl (by decide) ?_
    refine ag_callV_mI (q := 159) (av := [.int _]) (rest := []) dX8_readItem_156 rfl lk8_139 (C_X8_readNumbers hN (1 : Int32) _) (by decide) (Nat.le_of_ble_eq_true rfl) (Nat.lt_of_lt_of_le (by decide : 141 < NT) hN) (congrArg Prod.fst s_141) (by decide) (fun _ => rfl) (Nat.le_of_ble_eq_true rfl) rfl (fun r156 s156 e156 => ?_)
    refine ag_if_eq (tgt := 172) (q := 162) dX8_readItem_159 rfl rfl ?_ ?_
    · refine ag_iconst (q := 173) (v := 0) dX8_readItem_172 rfl (by decide) ?_
      exact ag_zretK dX8_readItem_173 rfl (by decide) rfl
    refine ag_aload_0 (q := 163) dX8_readItem_162 rfl ?_
    refine ag_iconst (q := 164) (v := 0) dX8_readItem_163 rfl (by decide) ?_
    refine ag_iconst (q := 165) (v := 0) dX8_readItem_164 rfl (by decide) ?_
    refine ag_iconst (q := 166) (v := 1) dX8_readItem_165 rfl (by decide) ?_
    refine ag_callV_pI (q := 169) (av := [.int _, .int _, .int _]) (rest := []) dX8_readItem_166 rfl lk8_136 (C_X8_isTold hN (0 : Int32) (0 : Int32) (1 : Int32) _) (by decide) (Nat.le_of_ble_eq_true rfl) (Nat.lt_of_lt_of_le (by decide : 141 < NT) hN) (congrArg Prod.fst s_141) (by decide) (fun _ => rfl) (Nat.le_of_ble_eq_true rfl) rfl (fun r166 e166 => ?_)
    refine ag_if_ne (tgt := 174) (q := 172) dX8_readItem_169 rfl rfl ?_ ?_
    · refine ag_aload_0 (q := 175) dX8_readItem_174 rfl ?_
      refine ag_getR (q := 178) dX8_readItem_175 rfl fl8_52 (Nat.lt_of_lt_of_le (by decide : 141 < NT) hN) (congrArg Prod.fst s_141) rfl r_141_30 ?_
      refine ag_aload_0 (q := 179) dX8_readItem_178 rfl ?_
      refine ag_getI (q := 182) dX8_readItem_179 rfl fl8_97 (Nat.lt_of_lt_of_le (by decide : 141 < NT) hN) (congrArg Prod.fst s_141) rfl ?_
      refine ag_aload_0 (q := 183) dX8_readItem_182 rfl ?_
      refine ag_getR (q := 186) dX8_readItem_183 rfl fl8_37 (Nat.lt_of_lt_of_le (by decide : 141 < NT) hN) (congrArg Prod.fst s_141) rfl r_141_19 ?_
      refine ag_iconst (q := 187) (v := 0) dX8_readItem_186 rfl (by decide) ?_
      refine ag_ialdK (q := 188) (k := 0) dX8_readItem_187 rfl (Nat.lt_of_lt_of_le (by decide : 151 < NT) hN) s_151 (by decide) (by decide) ?_
      refine ag_iast (q := 189) dX8_readItem_188 rfl (Nat.lt_of_lt_of_le (by decide : 156 < NT) hN) s_156 ?_
      refine ag_aload_0 (q := 190) dX8_readItem_189 rfl ?_
      refine ag_dup (q := 191) dX8_readItem_190 rfl rfl ?_
      refine ag_getI (q := 194) dX8_readItem_191 rfl fl8_97 (Nat.lt_of_lt_of_le (by decide : 141 < NT) hN) (congrArg Prod.fst s_141) rfl ?_
      refine ag_iconst (q := 195) (v := 1) dX8_readItem_194 rfl (by decide) ?_
      refine ag_iadd (q := 196) dX8_readItem_195 rfl ?_
      refine ag_putI (q := 199) dX8_readItem_196 rfl fl8_97 (Nat.lt_of_lt_of_le (by decide : 141 < NT) hN) (congrArg Prod.fst s_141) rfl ?_
      refine ag_iconst (q := 200) (v := 1) dX8_readItem_199 rfl (by decide) ?_
      exact ag_zretK dX8_readItem_200 rfl (by decide) rfl
    refine ag_iconst (q := 173) (v := 0) dX8_readItem_172 rfl (by decide) ?_
    exact ag_zretK dX8_readItem_173 rfl (by decide) rfl
  refine ag_ite (fun z119 => ?_) (fun z119 => ?_)
  · refine ag_lsw (q := 82) (off := 62) dX8_readItem_20 (by decide) (by rw [z119]; rfl) rfl ?_
    refine ag_aload_0 (q := 83) dX8_readItem_82 rfl ?_
    refine ag_iconst (q := 84) (v := 1) dX8_readItem_83 rfl (by decide) ?_
    refine ag_callV_mI (q := 87) (av := [.int _]) (rest := []) dX8_readItem_84 rfl lk8_139 (C_X8_readNumbers hN (1 : Int32) _) (by decide) (Nat.le_of_ble_eq_true rfl) (Nat.lt_of_lt_of_le (by decide : 141 < NT) hN) (congrArg Prod.fst s_141) (by decide) (fun _ => rfl) (Nat.le_of_ble_eq_true rfl) rfl (fun r84 s84 e84 => ?_)
    refine ag_if_eq (tgt := 98) (q := 90) dX8_readItem_87 rfl rfl ?_ ?_
    · refine ag_iconst (q := 99) (v := 0) dX8_readItem_98 rfl (by decide) ?_
      exact ag_zretK dX8_readItem_99 rfl (by decide) rfl
    refine ag_aload_0 (q := 91) dX8_readItem_90 rfl ?_
    refine ag_iconst (q := 92) (v := 0) dX8_readItem_91 rfl (by decide) ?_
    refine ag_callV_pI (q := 95) (av := [.int _]) (rest := []) dX8_readItem_92 rfl lk8_142 (C_X8_isDry hN (0 : Int32) _) (by decide) (Nat.le_of_ble_eq_true rfl) (Nat.lt_of_lt_of_le (by decide : 141 < NT) hN) (congrArg Prod.fst s_141) (by decide) (fun _ => rfl) (Nat.le_of_ble_eq_true rfl) rfl (fun r92 e92 => ?_)
    refine ag_if_ne (tgt := 100) (q := 98) dX8_readItem_95 rfl rfl ?_ ?_
    · refine ag_aload_0 (q := 101) dX8_readItem_100 rfl ?_
      refine ag_aload_0 (q := 102) dX8_readItem_101 rfl ?_
      refine ag_getR (q := 105) dX8_readItem_102 rfl fl8_37 (Nat.lt_of_lt_of_le (by decide : 141 < NT) hN) (congrArg Prod.fst s_141) rfl r_141_19 ?_
      refine ag_iconst (q := 106) (v := 0) dX8_readItem_105 rfl (by decide) ?_
      refine ag_ialdK (q := 107) (k := 0) dX8_readItem_106 rfl (Nat.lt_of_lt_of_le (by decide : 151 < NT) hN) s_151 (by decide) (by decide) ?_
      refine ag_putI (q := 110) dX8_readItem_107 rfl fl8_90 (Nat.lt_of_lt_of_le (by decide : 141 < NT) hN) (congrArg Prod.fst s_141) rfl ?_
      refine ag_iconst (q := 111) (v := 1) dX8_readItem_110 rfl (by decide) ?_
      exact ag_zretK dX8_readItem_111 rfl (by decide) rfl
    refine ag_iconst (q := 99) (v := 0) dX8_readItem_98 rfl (by decide) ?_
    exact ag_zretK dX8_readItem_99 rfl (by decide) rfl
  refine ag_lsw (q := 201) (off := 181) dX8_readItem_20 (by decide) (by refine (lv_osw z98 (by decide)).trans ?_; refine (lv_osw z104 (by decide)).trans ?_; refine (lv_osw z114 (by decide)).trans ?_; refine (lv_osw z115 (by decide)).trans ?_; refine (lv_osw z119 (by decide)).trans ?_; rfl) rfl ?_
  refine ag_iconst (q := 202) (v := 0) dX8_readItem_201 rfl (by decide) ?_
  exact ag_zretK dX8_readItem_202 rfl (by decide) rfl
theorem C_X8_readItem {N : Nat} (hN : NT ≤ N)  (σ : Sg) : ∀ r s', J_X8_readItem  σ = some (r, s') → AMc yX8_readItem mX8_readItem [.ref 141] N R0 σ (some (.int r), N, R0, s') := fun r s' e => AMc.of (L := [some (.ref 141), none]) (by decide) rfl (fun _ => rfl) (fun _ => Nat.le_of_ble_eq_true rfl) (Nat.le_refl _) (fun K => A_X8_readItem K hN  σ _ e)
def J_X8_fault_b9  : Nat → Sg → Option (Int32 × Sg)
  | 0, _ => none
  | k + 1, σ =>
    (if (σ 141 17) ≤ (σ 141 18) then (some ((-4 : Int32), σ)) else (bd2 (J_X8_readItem  σ) fun r26 s26 => (if r26 = 0 then (some ((σ 141 18), s26)) else (J_X8_fault_b9   k  s26))))
set_option maxHeartbeats 4000000 in
theorem A_X8_fault_b9 (K : KT) {N : Nat} (hN : NT ≤ N)  : ∀ (k : Nat)  (σ : Sg), AG K mX8_fault N (fun a : Int32 × Sg => (some (.int a.1), N, R0, a.2)) (J_X8_fault_b9   k  σ) 9 [some (.ref 141), none] [] σ := by
  intro k
  induction k with
  | zero => intro  σ; exact ag_none
  | succ k ih =>
    intro  σ
    rw [J_X8_fault_b9]
    refine ag_aload_0 (q := 10) dX8_fault_9 rfl ?_
    refine ag_getI (q := 13) dX8_fault_10 rfl fl8_125 (Nat.lt_of_lt_of_le (by decide : 141 < NT) hN) (congrArg Prod.fst s_141) rfl ?_
    refine ag_aload_0 (q := 14) dX8_fault_13 rfl ?_
    refine ag_getI (q := 17) dX8_fault_14 rfl fl8_122 (Nat.lt_of_lt_of_le (by decide : 141 < NT) hN) (congrArg Prod.fst s_141) rfl ?_
    refine ag_icmp_ge (tgt := 37) (q := 20) dX8_fault_17 rfl rfl ?_ ?_
    · refine ag_bipush (q := 39) (v := -4) dX8_fault_37 rfl (by decide) ?_
      exact ag_iret dX8_fault_39 rfl rfl
    refine ag_aload_0 (q := 21) dX8_fault_20 rfl ?_
    refine ag_getI (q := 24) dX8_fault_21 rfl fl8_125 (Nat.lt_of_lt_of_le (by decide : 141 < NT) hN) (congrArg Prod.fst s_141) rfl ?_
    refine ag_istore_1 (q := 25) dX8_fault_24 rfl (Nat.le_of_ble_eq_true rfl) rfl ?_
    refine ag_aload_0 (q := 26) dX8_fault_25 rfl ?_
    refine ag_callV_mI (q := 29) (av := []) (rest := []) dX8_fault_26 rfl lk8_152 (C_X8_readItem hN  _) (by decide) (Nat.le_of_ble_eq_true rfl) (Nat.lt_of_lt_of_le (by decide : 141 < NT) hN) (congrArg Prod.fst s_141) (by decide) (fun _ => rfl) (Nat.le_of_ble_eq_true rfl) rfl (fun r26 s26 e26 => ?_)
    refine ag_if_ne (tgt := 34) (q := 32) dX8_fault_29 rfl rfl ?_ ?_
    · refine ag_goto (q := 9) dX8_fault_34 rfl ?_
      refine ag_kill_1 ?_
      exact ih  s26
    refine ag_iload_1 (q := 33) dX8_fault_32 rfl ?_
    exact ag_iret dX8_fault_33 rfl rfl
def J_X8_fault  (σ : Sg) : Option (Int32 × Sg) :=
  (bd2 (J_X8_clearTold  (up σ 141 18 (0 : Int32))) fun r6 s6 => (J_X8_fault_b9   FU  s6))
set_option maxHeartbeats 4000000 in
theorem A_X8_fault (K : KT) {N : Nat} (hN : NT ≤ N)  (σ : Sg) : AG K mX8_fault N (fun a : Int32 × Sg => (some (.int a.1), N, R0, a.2)) (J_X8_fault  σ) 0 [some (.ref 141), none] [] σ := by
  unfold J_X8_fault
  refine ag_aload_0 (q := 1) dX8_fault_0 rfl ?_
  refine ag_iconst (q := 2) (v := 0) dX8_fault_1 rfl (by decide) ?_
  refine ag_putI (q := 5) dX8_fault_2 rfl fl8_125 (Nat.lt_of_lt_of_le (by decide : 141 < NT) hN) (congrArg Prod.fst s_141) rfl ?_
  refine ag_aload_0 (q := 6) dX8_fault_5 rfl ?_
  refine ag_callV_mU (q := 9) (av := []) (rest := []) dX8_fault_6 rfl lk8_79 (C_X8_clearTold hN  _) (by decide) (Nat.le_of_ble_eq_true rfl) (Nat.lt_of_lt_of_le (by decide : 141 < NT) hN) (congrArg Prod.fst s_141) (by decide) (fun _ => rfl) (Nat.le_of_ble_eq_true rfl) rfl (fun r6 s6 e6 => ?_)
  exact A_X8_fault_b9 K hN   FU  s6
theorem C_X8_fault {N : Nat} (hN : NT ≤ N)  (σ : Sg) : ∀ r s', J_X8_fault  σ = some (r, s') → AMc yX8_fault mX8_fault [.ref 141] N R0 σ (some (.int r), N, R0, s') := fun r s' e => AMc.of (L := [some (.ref 141), none]) (by decide) rfl (fun _ => rfl) (fun _ => Nat.le_of_ble_eq_true rfl) (Nat.le_refl _) (fun K => A_X8_fault K hN  σ _ e)
def J_X8_copies_b3  : Nat → Nat → Int32 → Nat → Int32 → Int32 → Int32 → Sg → Option (Unit × Sg)
  | 0, _, _, _, _, _, _, _ => none
  | k + 1, x0, x1, x2, x3, x4, x5, σ =>
    (if x4 ≤ x5 then (some ((), σ)) else (if inb (x3 + x5) (aln x2) = true then (if inb (x1 + x5) (aln x0) = true then (J_X8_copies_b3   k x0 x1 x2 x3 x4 (x5 + (1)) (up σ x0 (x1 + x5).toNatClampNeg (σ x2 (x3 + x5).toNatClampNeg))) else none) else none))
set_option maxHeartbeats 4000000 in
theorem A_X8_copies_b3 (K : KT) {N : Nat} (hN : NT ≤ N)  : ∀ (k : Nat) (x0 : Nat) (hx0 : isA x0 = true) (x1 : Int32) (x2 : Nat) (hx2 : isA x2 = true) (x3 : Int32) (x4 : Int32) (x5 : Int32) (σ : Sg), AG K mX8_copies N (fun a : Unit × Sg => (none, N, R0, a.2)) (J_X8_copies_b3   k x0 x1 x2 x3 x4 x5 σ) 3 [some (.ref x0), some (.int x1), some (.ref x2), some (.int x3), some (.int x4), some (.int x5)] [] σ := by
  intro k
  induction k with
  | zero => intro x0 hx0 x1 x2 hx2 x3 x4 x5 σ; exact ag_none
  | succ k ih =>
    intro x0 hx0 x1 x2 hx2 x3 x4 x5 σ
    rw [J_X8_copies_b3]
    refine ag_iload_5 (q := 5) dX8_copies_3 rfl ?_
    refine ag_iload_4 (q := 7) dX8_copies_5 rfl ?_
    refine ag_icmp_ge (tgt := 28) (q := 10) dX8_copies_7 rfl rfl ?_ ?_
    · exact ag_vret dX8_copies_28 rfl rfl
    refine ag_aload_0 (q := 11) dX8_copies_10 rfl ?_
    refine ag_iload_1 (q := 12) dX8_copies_11 rfl ?_
    refine ag_iload_5 (q := 14) dX8_copies_12 rfl ?_
    refine ag_iadd (q := 15) dX8_copies_14 rfl ?_
    refine ag_aload_2 (q := 16) dX8_copies_15 rfl ?_
    refine ag_iload_3 (q := 17) dX8_copies_16 rfl ?_
    refine ag_iload_5 (q := 19) dX8_copies_17 rfl ?_
    refine ag_iadd (q := 20) dX8_copies_19 rfl ?_
    refine ag_iald (q := 21) dX8_copies_20 rfl (Nat.lt_of_lt_of_le (alt hx2) hN) (aS hx2) ?_
    refine ag_iast (q := 22) dX8_copies_21 rfl (Nat.lt_of_lt_of_le (alt hx0) hN) (aS hx0) ?_
    refine ag_iinc_5 (q := 25) (d := (1)) dX8_copies_22 rfl (Nat.le_of_ble_eq_true rfl) rfl (by decide) ?_
    refine ag_goto (q := 3) dX8_copies_25 rfl ?_
    exact ih x0 hx0 x1 x2 hx2 x3 x4 (x5 + (1)) (up σ x0 (x1 + x5).toNatClampNeg (σ x2 (x3 + x5).toNatClampNeg))
def J_X8_copies (a0 : Nat) (a1 : Int32) (a2 : Nat) (a3 : Int32) (a4 : Int32) (σ : Sg) : Option (Unit × Sg) :=
  (J_X8_copies_b3   FU a0 a1 a2 a3 a4 (0 : Int32) σ)
set_option maxHeartbeats 4000000 in
theorem A_X8_copies (K : KT) {N : Nat} (hN : NT ≤ N) (a0 : Nat) (ha0 : isA a0 = true) (a1 : Int32) (a2 : Nat) (ha2 : isA a2 = true) (a3 : Int32) (a4 : Int32) (σ : Sg) : AG K mX8_copies N (fun a : Unit × Sg => (none, N, R0, a.2)) (J_X8_copies a0 a1 a2 a3 a4 σ) 0 [some (.ref a0), some (.int a1), some (.ref a2), some (.int a3), some (.int a4), none] [] σ := by
  unfold J_X8_copies
  refine ag_iconst (q := 1) (v := 0) dX8_copies_0 rfl (by decide) ?_
  refine ag_istore_5 (q := 3) dX8_copies_1 rfl (Nat.le_of_ble_eq_true rfl) rfl ?_
  exact A_X8_copies_b3 K hN   FU a0 ha0 a1 a2 ha2 a3 a4 (0 : Int32) σ
theorem C_X8_copies {N : Nat} (hN : NT ≤ N) (a0 : Nat) (ha0 : isA a0 = true) (a1 : Int32) (a2 : Nat) (ha2 : isA a2 = true) (a3 : Int32) (a4 : Int32) (σ : Sg) : ∀ r s', J_X8_copies a0 a1 a2 a3 a4 σ = some (r, s') → AMc yX8_copies mX8_copies [.ref a0, .int a1, .ref a2, .int a3, .int a4] N R0 σ (none, N, R0, s') := fun r s' e => AMc.of (L := [some (.ref a0), some (.int a1), some (.ref a2), some (.int a3), some (.int a4), none]) (by decide) rfl (fun _ => rfl) (fun _ => Nat.le_of_ble_eq_true rfl) (Nat.le_refl _) (fun K => A_X8_copies K hN a0 ha0 a1 a2 ha2 a3 a4 σ _ e)
def J_X8_settles_b176  : Nat → Int32 → Sg → Option (Unit × Sg)
  | 0, _, _ => none
  | k + 1, x1, σ =>
    (if (8 : Int32) ≤ x1 then (some ((), (up (up σ 141 11 (0 : Int32)) 141 14 (0 : Int32)))) else (if (σ 141 3) ≤ x1 then (if inb ((37 : Int32) + x1) 54 = true then (J_X8_settles_b176   k (x1 + (1)) (up σ 146 ((37 : Int32) + x1).toNatClampNeg (36 : Int32))) else none) else (if inb x1 8 = true then (if inb ((37 : Int32) + x1) 54 = true then (J_X8_settles_b176   k (x1 + (1)) (up σ 146 ((37 : Int32) + x1).toNatClampNeg (σ 155 x1.toNatClampNeg))) else none) else none)))
set_option maxHeartbeats 4000000 in
theorem A_X8_settles_b176 (K : KT) {N : Nat} (hN : NT ≤ N)  : ∀ (k : Nat) (x1 : Int32) (σ : Sg), AG K mX8_settles N (fun a : Unit × Sg => (none, N, R0, a.2)) (J_X8_settles_b176   k x1 σ) 176 [some (.ref 141), some (.int x1)] [] σ := by
  intro k
  induction k with
  | zero => intro x1 σ; exact ag_none
  | succ k ih =>
    intro x1 σ
    rw [J_X8_settles_b176]
    refine ag_iload_1 (q := 177) dX8_settles_176 rfl ?_
    refine ag_bipush (q := 179) (v := 8) dX8_settles_177 rfl (by decide) ?_
    refine ag_icmp_ge (tgt := 216) (q := 182) dX8_settles_179 rfl rfl ?_ ?_
    · refine ag_aload_0 (q := 217) dX8_settles_216 rfl ?_
      refine ag_iconst (q := 218) (v := 0) dX8_settles_217 rfl (by decide) ?_
      refine ag_putI (q := 221) dX8_settles_218 rfl fl8_175 (Nat.lt_of_lt_of_le (by decide : 141 < NT) hN) (congrArg Prod.fst s_141) rfl ?_
      refine ag_aload_0 (q := 222) dX8_settles_221 rfl ?_
      refine ag_iconst (q := 223) (v := 0) dX8_settles_222 rfl (by decide) ?_
      refine ag_putI (q := 226) dX8_settles_223 rfl fl8_178 (Nat.lt_of_lt_of_le (by decide : 141 < NT) hN) (congrArg Prod.fst s_141) rfl ?_
      exact ag_vret dX8_settles_226 rfl rfl
    refine ag_aload_0 (q := 183) dX8_settles_182 rfl ?_
    refine ag_getR (q := 186) dX8_settles_183 rfl fl8_22 (Nat.lt_of_lt_of_le (by decide : 141 < NT) hN) (congrArg Prod.fst s_141) rfl r_141_10 ?_
    refine ag_bipush (q := 188) (v := 37) dX8_settles_186 rfl (by decide) ?_
    refine ag_iload_1 (q := 189) dX8_settles_188 rfl ?_
    refine ag_iadd (q := 190) dX8_settles_189 rfl ?_
    refine ag_iload_1 (q := 191) dX8_settles_190 rfl ?_
    refine ag_aload_0 (q := 192) dX8_settles_191 rfl ?_
    refine ag_getI (q := 195) dX8_settles_192 rfl fl8_112 (Nat.lt_of_lt_of_le (by decide : 141 < NT) hN) (congrArg Prod.fst s_141) rfl ?_
    refine ag_icmp_ge (tgt := 207) (q := 198) dX8_settles_195 rfl rfl ?_ ?_
    · refine ag_bipush (q := 209) (v := 36) dX8_settles_207 rfl (by decide) ?_
      refine ag_iast (q := 210) dX8_settles_209 rfl (Nat.lt_of_lt_of_le (by decide : 146 < NT) hN) s_146 ?_
      refine ag_iinc_1 (q := 213) (d := (1)) dX8_settles_210 rfl (Nat.le_of_ble_eq_true rfl) rfl (by decide) ?_
      refine ag_goto (q := 176) dX8_settles_213 rfl ?_
      exact ih (x1 + (1)) (up σ 146 ((37 : Int32) + x1).toNatClampNeg (36 : Int32))
    refine ag_aload_0 (q := 199) dX8_settles_198 rfl ?_
    refine ag_getR (q := 202) dX8_settles_199 rfl fl8_49 (Nat.lt_of_lt_of_le (by decide : 141 < NT) hN) (congrArg Prod.fst s_141) rfl r_141_26 ?_
    refine ag_iload_1 (q := 203) dX8_settles_202 rfl ?_
    refine ag_iald (q := 204) dX8_settles_203 rfl (Nat.lt_of_lt_of_le (by decide : 155 < NT) hN) s_155 ?_
    refine ag_goto (q := 209) dX8_settles_204 rfl ?_
    refine ag_iast (q := 210) dX8_settles_209 rfl (Nat.lt_of_lt_of_le (by decide : 146 < NT) hN) s_146 ?_
    refine ag_iinc_1 (q := 213) (d := (1)) dX8_settles_210 rfl (Nat.le_of_ble_eq_true rfl) rfl (by decide) ?_
    refine ag_goto (q := 176) dX8_settles_213 rfl ?_
    exact ih (x1 + (1)) (up σ 146 ((37 : Int32) + x1).toNatClampNeg (σ 155 x1.toNatClampNeg))
def J_X8_settles_b131  : Nat → Int32 → Sg → Option (Unit × Sg)
  | 0, _, _ => none
  | k + 1, x1, σ =>
    (if (σ 141 0) ≤ x1 then (J_X8_settles_b176   FU (0 : Int32) σ) else (if inb x1 36 = true then (if (σ 142 x1.toNatClampNeg) = (9 : Int32) then (if inb ((1 : Int32) + x1) 54 = true then (J_X8_settles_b131   k (x1 + (1)) (up σ 146 ((1 : Int32) + x1).toNatClampNeg (0 : Int32))) else none) else (if inb x1 36 = true then (if inb ((1 : Int32) + x1) 54 = true then (J_X8_settles_b131   k (x1 + (1)) (up σ 146 ((1 : Int32) + x1).toNatClampNeg (σ 142 x1.toNatClampNeg))) else none) else none)) else none))
set_option maxHeartbeats 4000000 in
theorem A_X8_settles_b131 (K : KT) {N : Nat} (hN : NT ≤ N)  : ∀ (k : Nat) (x1 : Int32) (σ : Sg), AG K mX8_settles N (fun a : Unit × Sg => (none, N, R0, a.2)) (J_X8_settles_b131   k x1 σ) 131 [some (.ref 141), some (.int x1)] [] σ := by
  intro k
  induction k with
  | zero => intro x1 σ; exact ag_none
  | succ k ih =>
    intro x1 σ
    rw [J_X8_settles_b131]
    refine ag_iload_1 (q := 132) dX8_settles_131 rfl ?_
    refine ag_aload_0 (q := 133) dX8_settles_132 rfl ?_
    refine ag_getI (q := 136) dX8_settles_133 rfl fl8_119 (Nat.lt_of_lt_of_le (by decide : 141 < NT) hN) (congrArg Prod.fst s_141) rfl ?_
    refine ag_icmp_ge (tgt := 174) (q := 139) dX8_settles_136 rfl rfl ?_ ?_
    · refine ag_iconst (q := 175) (v := 0) dX8_settles_174 rfl (by decide) ?_
      refine ag_istore_1 (q := 176) dX8_settles_175 rfl (Nat.le_of_ble_eq_true rfl) rfl ?_
      exact A_X8_settles_b176 K hN   FU (0 : Int32) σ
    refine ag_aload_0 (q := 140) dX8_settles_139 rfl ?_
    refine ag_getR (q := 143) dX8_settles_140 rfl fl8_22 (Nat.lt_of_lt_of_le (by decide : 141 < NT) hN) (congrArg Prod.fst s_141) rfl r_141_10 ?_
    refine ag_iconst (q := 144) (v := 1) dX8_settles_143 rfl (by decide) ?_
    refine ag_iload_1 (q := 145) dX8_settles_144 rfl ?_
    refine ag_iadd (q := 146) dX8_settles_145 rfl ?_
    refine ag_aload_0 (q := 147) dX8_settles_146 rfl ?_
    refine ag_getR (q := 150) dX8_settles_147 rfl fl8_7 (Nat.lt_of_lt_of_le (by decide : 141 < NT) hN) (congrArg Prod.fst s_141) rfl r_141_2 ?_
    refine ag_iload_1 (q := 151) dX8_settles_150 rfl ?_
    refine ag_iald (q := 152) dX8_settles_151 rfl (Nat.lt_of_lt_of_le (by decide : 142 < NT) hN) s_142 ?_
    refine ag_bipush (q := 154) (v := 9) dX8_settles_152 rfl (by decide) ?_
    refine ag_icmp_ne (tgt := 161) (q := 157) dX8_settles_154 rfl rfl ?_ ?_
    · refine ag_aload_0 (q := 162) dX8_settles_161 rfl ?_
      refine ag_getR (q := 165) dX8_settles_162 rfl fl8_7 (Nat.lt_of_lt_of_le (by decide : 141 < NT) hN) (congrArg Prod.fst s_141) rfl r_141_2 ?_
      refine ag_iload_1 (q := 166) dX8_settles_165 rfl ?_
      refine ag_iald (q := 167) dX8_settles_166 rfl (Nat.lt_of_lt_of_le (by decide : 142 < NT) hN) s_142 ?_
      refine ag_iast (q := 168) dX8_settles_167 rfl (Nat.lt_of_lt_of_le (by decide : 146 < NT) hN) s_146 ?_
      refine ag_iinc_1 (q := 171) (d := (1)) dX8_settles_168 rfl (Nat.le_of_ble_eq_true rfl) rfl (by decide) ?_
      refine ag_goto (q := 131) dX8_settles_171 rfl ?_
      exact ih (x1 + (1)) (up σ 146 ((1 : Int32) + x1).toNatClampNeg (σ 142 x1.toNatClampNeg))
    refine ag_iconst (q := 158) (v := 0) dX8_settles_157 rfl (by decide) ?_
    refine ag_goto (q := 167) dX8_settles_158 rfl ?_
    refine ag_iast (q := 168) dX8_settles_167 rfl (Nat.lt_of_lt_of_le (by decide : 146 < NT) hN) s_146 ?_
    refine ag_iinc_1 (q := 171) (d := (1)) dX8_settles_168 rfl (Nat.le_of_ble_eq_true rfl) rfl (by decide) ?_
    refine ag_goto (q := 131) dX8_settles_171 rfl ?_
    exact ih (x1 + (1)) (up σ 146 ((1 : Int32) + x1).toNatClampNeg (0 : Int32))
def J_X8_settles_b110  : Nat → Int32 → Sg → Option (Unit × Sg)
  | 0, _, _ => none
  | k + 1, x1, σ =>
    (if (54 : Int32) ≤ x1 then (J_X8_settles_b131   FU (0 : Int32) σ) else (if inb x1 54 = true then (J_X8_settles_b110   k (x1 + (1)) (up σ 146 x1.toNatClampNeg (0 : Int32))) else none))
set_option maxHeartbeats 4000000 in
theorem A_X8_settles_b110 (K : KT) {N : Nat} (hN : NT ≤ N)  : ∀ (k : Nat) (x1 : Int32) (σ : Sg), AG K mX8_settles N (fun a : Unit × Sg => (none, N, R0, a.2)) (J_X8_settles_b110   k x1 σ) 110 [some (.ref 141), some (.int x1)] [] σ := by
  intro k
  induction k with
  | zero => intro x1 σ; exact ag_none
  | succ k ih =>
    intro x1 σ
    rw [J_X8_settles_b110]
    refine ag_iload_1 (q := 111) dX8_settles_110 rfl ?_
    refine ag_bipush (q := 113) (v := 54) dX8_settles_111 rfl (by decide) ?_
    refine ag_icmp_ge (tgt := 129) (q := 116) dX8_settles_113 rfl rfl ?_ ?_
    · refine ag_iconst (q := 130) (v := 0) dX8_settles_129 rfl (by decide) ?_
      refine ag_istore_1 (q := 131) dX8_settles_130 rfl (Nat.le_of_ble_eq_true rfl) rfl ?_
      exact A_X8_settles_b131 K hN   FU (0 : Int32) σ
    refine ag_aload_0 (q := 117) dX8_settles_116 rfl ?_
    refine ag_getR (q := 120) dX8_settles_117 rfl fl8_22 (Nat.lt_of_lt_of_le (by decide : 141 < NT) hN) (congrArg Prod.fst s_141) rfl r_141_10 ?_
    refine ag_iload_1 (q := 121) dX8_settles_120 rfl ?_
    refine ag_iconst (q := 122) (v := 0) dX8_settles_121 rfl (by decide) ?_
    refine ag_iast (q := 123) dX8_settles_122 rfl (Nat.lt_of_lt_of_le (by decide : 146 < NT) hN) s_146 ?_
    refine ag_iinc_1 (q := 126) (d := (1)) dX8_settles_123 rfl (Nat.le_of_ble_eq_true rfl) rfl (by decide) ?_
    refine ag_goto (q := 110) dX8_settles_126 rfl ?_
    exact ih (x1 + (1)) (up σ 146 x1.toNatClampNeg (0 : Int32))
def J_X8_settles  (σ : Sg) : Option (Unit × Sg) :=
  (bd2 (J_X8_copies 142 (0 : Int32) 152 (0 : Int32) (36 : Int32) (up (up σ 141 0 (σ 141 20)) 141 1 ((up σ 141 0 (σ 141 20)) 141 21))) fun r28 s28 => (bd2 (J_X8_copies 143 (0 : Int32) 153 (0 : Int32) (8 : Int32) (up s28 141 3 (s28 141 23))) fun r51 s51 => (bd2 (J_X8_copies 144 (0 : Int32) 154 (0 : Int32) (8 : Int32) s51) fun r66 s66 => (bd2 (J_X8_copies 145 (0 : Int32) 156 (0 : Int32) (9 : Int32) (up (up (up s66 141 6 (s66 141 27)) 141 7 ((up s66 141 6 (s66 141 27)) 141 28)) 141 8 ((up (up s66 141 6 (s66 141 27)) 141 7 ((up s66 141 6 (s66 141 27)) 141 28)) 141 29))) fun r105 s105 => (J_X8_settles_b110   FU (0 : Int32) s105)))))
set_option maxHeartbeats 4000000 in
theorem A_X8_settles (K : KT) {N : Nat} (hN : NT ≤ N)  (σ : Sg) : AG K mX8_settles N (fun a : Unit × Sg => (none, N, R0, a.2)) (J_X8_settles  σ) 0 [some (.ref 141), none] [] σ := by
  unfold J_X8_settles
  refine ag_aload_0 (q := 1) dX8_settles_0 rfl ?_
  refine ag_aload_0 (q := 2) dX8_settles_1 rfl ?_
  refine ag_getI (q := 5) dX8_settles_2 rfl fl8_106 (Nat.lt_of_lt_of_le (by decide : 141 < NT) hN) (congrArg Prod.fst s_141) rfl ?_
  refine ag_putI (q := 8) dX8_settles_5 rfl fl8_119 (Nat.lt_of_lt_of_le (by decide : 141 < NT) hN) (congrArg Prod.fst s_141) rfl ?_
  refine ag_aload_0 (q := 9) dX8_settles_8 rfl ?_
  refine ag_aload_0 (q := 10) dX8_settles_9 rfl ?_
  refine ag_getI (q := 13) dX8_settles_10 rfl fl8_103 (Nat.lt_of_lt_of_le (by decide : 141 < NT) hN) (congrArg Prod.fst s_141) rfl ?_
  refine ag_putI (q := 16) dX8_settles_13 rfl fl8_159 (Nat.lt_of_lt_of_le (by decide : 141 < NT) hN) (congrArg Prod.fst s_141) rfl ?_
  refine ag_aload_0 (q := 17) dX8_settles_16 rfl ?_
  refine ag_getR (q := 20) dX8_settles_17 rfl fl8_7 (Nat.lt_of_lt_of_le (by decide : 141 < NT) hN) (congrArg Prod.fst s_141) rfl r_141_2 ?_
  refine ag_iconst (q := 21) (v := 0) dX8_settles_20 rfl (by decide) ?_
  refine ag_aload_0 (q := 22) dX8_settles_21 rfl ?_
  refine ag_getR (q := 25) dX8_settles_22 rfl fl8_40 (Nat.lt_of_lt_of_le (by decide : 141 < NT) hN) (congrArg Prod.fst s_141) rfl r_141_22 ?_
  refine ag_iconst (q := 26) (v := 0) dX8_settles_25 rfl (by decide) ?_
  refine ag_bipush (q := 28) (v := 36) dX8_settles_26 rfl (by decide) ?_
  refine ag_callS_mU (q := 31) (av := [.ref _, .int _, .ref _, .int _, .int _]) (rest := []) dX8_settles_28 rfl lk8_162 (C_X8_copies hN 142 (by decide) (0 : Int32) 152 (by decide) (0 : Int32) (36 : Int32) _) (by decide) (Nat.le_of_ble_eq_true rfl) (fun _ => rfl) (Nat.le_of_ble_eq_true rfl) rfl (fun r28 s28 e28 => ?_)
  refine ag_aload_0 (q := 32) dX8_settles_31 rfl ?_
  refine ag_aload_0 (q := 33) dX8_settles_32 rfl ?_
  refine ag_getI (q := 36) dX8_settles_33 rfl fl8_109 (Nat.lt_of_lt_of_le (by decide : 141 < NT) hN) (congrArg Prod.fst s_141) rfl ?_
  refine ag_putI (q := 39) dX8_settles_36 rfl fl8_112 (Nat.lt_of_lt_of_le (by decide : 141 < NT) hN) (congrArg Prod.fst s_141) rfl ?_
  refine ag_aload_0 (q := 40) dX8_settles_39 rfl ?_
  refine ag_getR (q := 43) dX8_settles_40 rfl fl8_13 (Nat.lt_of_lt_of_le (by decide : 141 < NT) hN) (congrArg Prod.fst s_141) rfl r_141_4 ?_
  refine ag_iconst (q := 44) (v := 0) dX8_settles_43 rfl (by decide) ?_
  refine ag_aload_0 (q := 45) dX8_settles_44 rfl ?_
  refine ag_getR (q := 48) dX8_settles_45 rfl fl8_43 (Nat.lt_of_lt_of_le (by decide : 141 < NT) hN) (congrArg Prod.fst s_141) rfl r_141_24 ?_
  refine ag_iconst (q := 49) (v := 0) dX8_settles_48 rfl (by decide) ?_
  refine ag_bipush (q := 51) (v := 8) dX8_settles_49 rfl (by decide) ?_
  refine ag_callS_mU (q := 54) (av := [.ref _, .int _, .ref _, .int _, .int _]) (rest := []) dX8_settles_51 rfl lk8_162 (C_X8_copies hN 143 (by decide) (0 : Int32) 153 (by decide) (0 : Int32) (8 : Int32) _) (by decide) (Nat.le_of_ble_eq_true rfl) (fun _ => rfl) (Nat.le_of_ble_eq_true rfl) rfl (fun r51 s51 e51 => ?_)
  refine ag_aload_0 (q := 55) dX8_settles_54 rfl ?_
  refine ag_getR (q := 58) dX8_settles_55 rfl fl8_16 (Nat.lt_of_lt_of_le (by decide : 141 < NT) hN) (congrArg Prod.fst s_141) rfl r_141_5 ?_
  refine ag_iconst (q := 59) (v := 0) dX8_settles_58 rfl (by decide) ?_
  refine ag_aload_0 (q := 60) dX8_settles_59 rfl ?_
  refine ag_getR (q := 63) dX8_settles_60 rfl fl8_46 (Nat.lt_of_lt_of_le (by decide : 141 < NT) hN) (congrArg Prod.fst s_141) rfl r_141_25 ?_
  refine ag_iconst (q := 64) (v := 0) dX8_settles_63 rfl (by decide) ?_
  refine ag_bipush (q := 66) (v := 8) dX8_settles_64 rfl (by decide) ?_
  refine ag_callS_mU (q := 69) (av := [.ref _, .int _, .ref _, .int _, .int _]) (rest := []) dX8_settles_66 rfl lk8_162 (C_X8_copies hN 144 (by decide) (0 : Int32) 154 (by decide) (0 : Int32) (8 : Int32) _) (by decide) (Nat.le_of_ble_eq_true rfl) (fun _ => rfl) (Nat.le_of_ble_eq_true rfl) rfl (fun r66 s66 e66 => ?_)
  refine ag_aload_0 (q := 70) dX8_settles_69 rfl ?_
  refine ag_aload_0 (q := 71) dX8_settles_70 rfl ?_
  refine ag_getI (q := 74) dX8_settles_71 rfl fl8_90 (Nat.lt_of_lt_of_le (by decide : 141 < NT) hN) (congrArg Prod.fst s_141) rfl ?_
  refine ag_putI (q := 77) dX8_settles_74 rfl fl8_166 (Nat.lt_of_lt_of_le (by decide : 141 < NT) hN) (congrArg Prod.fst s_141) rfl ?_
  refine ag_aload_0 (q := 78) dX8_settles_77 rfl ?_
  refine ag_aload_0 (q := 79) dX8_settles_78 rfl ?_
  refine ag_getI (q := 82) dX8_settles_79 rfl fl8_94 (Nat.lt_of_lt_of_le (by decide : 141 < NT) hN) (congrArg Prod.fst s_141) rfl ?_
  refine ag_putI (q := 85) dX8_settles_82 rfl fl8_169 (Nat.lt_of_lt_of_le (by decide : 141 < NT) hN) (congrArg Prod.fst s_141) rfl ?_
  refine ag_aload_0 (q := 86) dX8_settles_85 rfl ?_
  refine ag_aload_0 (q := 87) dX8_settles_86 rfl ?_
  refine ag_getI (q := 90) dX8_settles_87 rfl fl8_97 (Nat.lt_of_lt_of_le (by decide : 141 < NT) hN) (congrArg Prod.fst s_141) rfl ?_
  refine ag_putI (q := 93) dX8_settles_90 rfl fl8_172 (Nat.lt_of_lt_of_le (by decide : 141 < NT) hN) (congrArg Prod.fst s_141) rfl ?_
  refine ag_aload_0 (q := 94) dX8_settles_93 rfl ?_
  refine ag_getR (q := 97) dX8_settles_94 rfl fl8_19 (Nat.lt_of_lt_of_le (by decide : 141 < NT) hN) (congrArg Prod.fst s_141) rfl r_141_9 ?_
  refine ag_iconst (q := 98) (v := 0) dX8_settles_97 rfl (by decide) ?_
  refine ag_aload_0 (q := 99) dX8_settles_98 rfl ?_
  refine ag_getR (q := 102) dX8_settles_99 rfl fl8_52 (Nat.lt_of_lt_of_le (by decide : 141 < NT) hN) (congrArg Prod.fst s_141) rfl r_141_30 ?_
  refine ag_iconst (q := 103) (v := 0) dX8_settles_102 rfl (by decide) ?_
  refine ag_bipush (q := 105) (v := 9) dX8_settles_103 rfl (by decide) ?_
  refine ag_callS_mU (q := 108) (av := [.ref _, .int _, .ref _, .int _, .int _]) (rest := []) dX8_settles_105 rfl lk8_162 (C_X8_copies hN 145 (by decide) (0 : Int32) 156 (by decide) (0 : Int32) (9 : Int32) _) (by decide) (Nat.le_of_ble_eq_true rfl) (fun _ => rfl) (Nat.le_of_ble_eq_true rfl) rfl (fun r105 s105 e105 => ?_)
  refine ag_iconst (q := 109) (v := 0) dX8_settles_108 rfl (by decide) ?_
  refine ag_istore_1 (q := 110) dX8_settles_109 rfl (Nat.le_of_ble_eq_true rfl) rfl ?_
  exact A_X8_settles_b110 K hN   FU (0 : Int32) s105
theorem C_X8_settles {N : Nat} (hN : NT ≤ N)  (σ : Sg) : ∀ r s', J_X8_settles  σ = some (r, s') → AMc yX8_settles mX8_settles [.ref 141] N R0 σ (none, N, R0, s') := fun r s' e => AMc.of (L := [some (.ref 141), none]) (by decide) rfl (fun _ => rfl) (fun _ => Nat.le_of_ble_eq_true rfl) (Nat.le_refl _) (fun K => A_X8_settles K hN  σ _ e)
def J_X8_lay  (σ : Sg) : Option (Int32 × Sg) :=
  (bd2 (J_X8_fault  σ) fun r1 s1 => (if r1 = (-4 : Int32) then (if (s1 141 23) = 0 then (some ((-2 : Int32), s1)) else (bd2 (J_X8_settles  s1) fun r20 s20 => (some ((s20 141 3), s20)))) else (some ((-2 : Int32), s1))))
set_option maxHeartbeats 4000000 in
theorem A_X8_lay (K : KT) {N : Nat} (hN : NT ≤ N)  (σ : Sg) : AG K mX8_lay N (fun a : Int32 × Sg => (some (.int a.1), N, R0, a.2)) (J_X8_lay  σ) 0 [some (.ref 141)] [] σ := by
  unfold J_X8_lay
  refine ag_aload_0 (q := 1) dX8_lay_0 rfl ?_
  refine ag_callV_mI (q := 4) (av := []) (rest := []) dX8_lay_1 rfl lk8_155 (C_X8_fault hN  _) (by decide) (Nat.le_of_ble_eq_true rfl) (Nat.lt_of_lt_of_le (by decide : 141 < NT) hN) (congrArg Prod.fst s_141) (by decide) (fun _ => rfl) (Nat.le_of_ble_eq_true rfl) rfl (fun r1 s1 e1 => ?_)
  refine ag_bipush (q := 6) (v := -4) dX8_lay_4 rfl (by decide) ?_
  refine ag_icmp_ne (tgt := 16) (q := 9) dX8_lay_6 rfl rfl ?_ ?_
  · refine ag_bipush (q := 18) (v := -2) dX8_lay_16 rfl (by decide) ?_
    exact ag_iret dX8_lay_18 rfl rfl
  refine ag_aload_0 (q := 10) dX8_lay_9 rfl ?_
  refine ag_getI (q := 13) dX8_lay_10 rfl fl8_109 (Nat.lt_of_lt_of_le (by decide : 141 < NT) hN) (congrArg Prod.fst s_141) rfl ?_
  refine ag_if_ne (tgt := 19) (q := 16) dX8_lay_13 rfl rfl ?_ ?_
  · refine ag_aload_0 (q := 20) dX8_lay_19 rfl ?_
    refine ag_callV_mU (q := 23) (av := []) (rest := []) dX8_lay_20 rfl lk8_100 (C_X8_settles hN  _) (by decide) (Nat.le_of_ble_eq_true rfl) (Nat.lt_of_lt_of_le (by decide : 141 < NT) hN) (congrArg Prod.fst s_141) (by decide) (fun _ => rfl) (Nat.le_of_ble_eq_true rfl) rfl (fun r20 s20 e20 => ?_)
    refine ag_aload_0 (q := 24) dX8_lay_23 rfl ?_
    refine ag_getI (q := 27) dX8_lay_24 rfl fl8_112 (Nat.lt_of_lt_of_le (by decide : 141 < NT) hN) (congrArg Prod.fst s_141) rfl ?_
    exact ag_iret dX8_lay_27 rfl rfl
  refine ag_bipush (q := 18) (v := -2) dX8_lay_16 rfl (by decide) ?_
  exact ag_iret dX8_lay_18 rfl rfl
theorem C_X8_lay {N : Nat} (hN : NT ≤ N)  (σ : Sg) : ∀ r s', J_X8_lay  σ = some (r, s') → AMc yX8_lay mX8_lay [.ref 141] N R0 σ (some (.int r), N, R0, s') := fun r s' e => AMc.of (L := [some (.ref 141)]) (by decide) rfl (fun _ => rfl) (fun _ => Nat.le_of_ble_eq_true rfl) (Nat.le_refl _) (fun K => A_X8_lay K hN  σ _ e)
def J_X8_asItIs  (σ : Sg) : Option (Unit × Sg) :=
  (bd2 (J_X8_copies 157 (0 : Int32) 146 (0 : Int32) (54 : Int32) σ) fun r12 s12 => (some ((), s12)))
set_option maxHeartbeats 4000000 in
theorem A_X8_asItIs (K : KT) {N : Nat} (hN : NT ≤ N)  (σ : Sg) : AG K mX8_asItIs N (fun a : Unit × Sg => (none, N, R0, a.2)) (J_X8_asItIs  σ) 0 [some (.ref 141)] [] σ := by
  unfold J_X8_asItIs
  refine ag_aload_0 (q := 1) dX8_asItIs_0 rfl ?_
  refine ag_getR (q := 4) dX8_asItIs_1 rfl fl8_55 (Nat.lt_of_lt_of_le (by decide : 141 < NT) hN) (congrArg Prod.fst s_141) rfl r_141_31 ?_
  refine ag_iconst (q := 5) (v := 0) dX8_asItIs_4 rfl (by decide) ?_
  refine ag_aload_0 (q := 6) dX8_asItIs_5 rfl ?_
  refine ag_getR (q := 9) dX8_asItIs_6 rfl fl8_22 (Nat.lt_of_lt_of_le (by decide : 141 < NT) hN) (congrArg Prod.fst s_141) rfl r_141_10 ?_
  refine ag_iconst (q := 10) (v := 0) dX8_asItIs_9 rfl (by decide) ?_
  refine ag_bipush (q := 12) (v := 54) dX8_asItIs_10 rfl (by decide) ?_
  refine ag_callS_mU (q := 15) (av := [.ref _, .int _, .ref _, .int _, .int _]) (rest := []) dX8_asItIs_12 rfl lk8_162 (C_X8_copies hN 157 (by decide) (0 : Int32) 146 (by decide) (0 : Int32) (54 : Int32) _) (by decide) (Nat.le_of_ble_eq_true rfl) (fun _ => rfl) (Nat.le_of_ble_eq_true rfl) rfl (fun r12 s12 e12 => ?_)
  exact ag_vret dX8_asItIs_15 rfl rfl
theorem C_X8_asItIs {N : Nat} (hN : NT ≤ N)  (σ : Sg) : ∀ r s', J_X8_asItIs  σ = some (r, s') → AMc yX8_asItIs mX8_asItIs [.ref 141] N R0 σ (none, N, R0, s') := fun r s' e => AMc.of (L := [some (.ref 141)]) (by decide) rfl (fun _ => rfl) (fun _ => Nat.le_of_ble_eq_true rfl) (Nat.le_refl _) (fun K => A_X8_asItIs K hN  σ _ e)
def J_X8_kindOf (a1 : Int32) (σ : Sg) : Option Int32 :=
  (if inb a1 8 = true then (if (σ 143 a1.toNatClampNeg) = (2 : Int32) then (bd1 (J_X8_has (σ 157 53) a1 σ) fun r18 => (if r18 = 0 then (if inb a1 8 = true then (some (σ 143 a1.toNatClampNeg)) else none) else (some (1 : Int32)))) else (if inb a1 8 = true then (some (σ 143 a1.toNatClampNeg)) else none)) else none)
set_option maxHeartbeats 4000000 in
theorem A_X8_kindOf (K : KT) {N : Nat} (hN : NT ≤ N) (a1 : Int32) (σ : Sg) : AG K mX8_kindOf N (fun a : Int32 => (some (.int a), N, R0, σ)) (J_X8_kindOf a1 σ) 0 [some (.ref 141), some (.int a1)] [] σ := by
  unfold J_X8_kindOf
  refine ag_aload_0 (q := 1) dX8_kindOf_0 rfl ?_
  refine ag_getR (q := 4) dX8_kindOf_1 rfl fl8_13 (Nat.lt_of_lt_of_le (by decide : 141 < NT) hN) (congrArg Prod.fst s_141) rfl r_141_4 ?_
  refine ag_iload_1 (q := 5) dX8_kindOf_4 rfl ?_
  refine ag_iald (q := 6) dX8_kindOf_5 rfl (Nat.lt_of_lt_of_le (by decide : 143 < NT) hN) s_143 ?_
  refine ag_iconst (q := 7) (v := 2) dX8_kindOf_6 rfl (by decide) ?_
  refine ag_icmp_ne (tgt := 28) (q := 10) dX8_kindOf_7 rfl rfl ?_ ?_
  · refine ag_aload_0 (q := 29) dX8_kindOf_28 rfl ?_
    refine ag_getR (q := 32) dX8_kindOf_29 rfl fl8_13 (Nat.lt_of_lt_of_le (by decide : 141 < NT) hN) (congrArg Prod.fst s_141) rfl r_141_4 ?_
    refine ag_iload_1 (q := 33) dX8_kindOf_32 rfl ?_
    refine ag_iald (q := 34) dX8_kindOf_33 rfl (Nat.lt_of_lt_of_le (by decide : 143 < NT) hN) s_143 ?_
    exact ag_iret dX8_kindOf_34 rfl rfl
  refine ag_aload_0 (q := 11) dX8_kindOf_10 rfl ?_
  refine ag_getR (q := 14) dX8_kindOf_11 rfl fl8_55 (Nat.lt_of_lt_of_le (by decide : 141 < NT) hN) (congrArg Prod.fst s_141) rfl r_141_31 ?_
  refine ag_bipush (q := 16) (v := 53) dX8_kindOf_14 rfl (by decide) ?_
  refine ag_ialdK (q := 17) (k := 53) dX8_kindOf_16 rfl (Nat.lt_of_lt_of_le (by decide : 157 < NT) hN) s_157 (by decide) (by decide) ?_
  refine ag_iload_1 (q := 18) dX8_kindOf_17 rfl ?_
  refine ag_callS_pI (q := 21) (av := [.int _, .int _]) (rest := []) dX8_kindOf_18 rfl lk8_181 (C_X8_has hN (σ 157 53) a1 _) (by decide) (Nat.le_of_ble_eq_true rfl) (fun _ => rfl) (Nat.le_of_ble_eq_true rfl) rfl (fun r18 e18 => ?_)
  refine ag_if_eq (tgt := 28) (q := 24) dX8_kindOf_21 rfl rfl ?_ ?_
  · refine ag_aload_0 (q := 29) dX8_kindOf_28 rfl ?_
    refine ag_getR (q := 32) dX8_kindOf_29 rfl fl8_13 (Nat.lt_of_lt_of_le (by decide : 141 < NT) hN) (congrArg Prod.fst s_141) rfl r_141_4 ?_
    refine ag_iload_1 (q := 33) dX8_kindOf_32 rfl ?_
    refine ag_iald (q := 34) dX8_kindOf_33 rfl (Nat.lt_of_lt_of_le (by decide : 143 < NT) hN) s_143 ?_
    exact ag_iret dX8_kindOf_34 rfl rfl
  refine ag_iconst (q := 25) (v := 1) dX8_kindOf_24 rfl (by decide) ?_
  refine ag_goto (q := 34) dX8_kindOf_25 rfl ?_
  exact ag_iret dX8_kindOf_34 rfl rfl
theorem C_X8_kindOf {N : Nat} (hN : NT ≤ N) (a1 : Int32) (σ : Sg) : ∀ r, J_X8_kindOf a1 σ = some r → AMc yX8_kindOf mX8_kindOf [.ref 141, .int a1] N R0 σ (some (.int r), N, R0, σ) := fun r e => AMc.of (L := [some (.ref 141), some (.int a1)]) (by decide) rfl (fun _ => rfl) (fun _ => Nat.le_of_ble_eq_true rfl) (Nat.le_refl _) (fun K => A_X8_kindOf K hN a1 σ _ e)
def J_X8_nextTo (a1 : Int32) (a2 : Int32) (σ : Sg) : Option Int32 :=
  (if a2 = 0 then (if a1 < (σ 141 1) then (some (-4 : Int32)) else (some (a1 - (σ 141 1)))) else (if a2 = 1 then (if (σ 141 1) = 0 then none else (if ((σ 141 1) - (1 : Int32)) ≤ (rmI a1 (σ 141 1)) then (some (-4 : Int32)) else (some (a1 + (1 : Int32))))) else (if a2 = 2 then (if (σ 141 0) ≤ (a1 + (σ 141 1)) then (some (-4 : Int32)) else (some (a1 + (σ 141 1)))) else (if (σ 141 1) = 0 then none else (if (rmI a1 (σ 141 1)) ≤ 0 then (some (-4 : Int32)) else (some (a1 - (1 : Int32))))))))
set_option maxHeartbeats 4000000 in
theorem A_X8_nextTo (K : KT) {N : Nat} (hN : NT ≤ N) (a1 : Int32) (a2 : Int32) (σ : Sg) : AG K mX8_nextTo N (fun a : Int32 => (some (.int a), N, R0, σ)) (J_X8_nextTo a1 a2 σ) 0 [some (.ref 141), some (.int a1), some (.int a2)] [] σ := by
  unfold J_X8_nextTo
  refine ag_iload_2 (q := 1) dX8_nextTo_0 rfl ?_
  refine ag_ite (fun z0 => ?_) (fun z0 => ?_)
  · refine ag_tin (k := 0) (q := 28) dX8_nextTo_1 z0 (by decide) (by decide) rfl rfl ?_
    refine ag_iload_1 (q := 29) dX8_nextTo_28 rfl ?_
    refine ag_aload_0 (q := 30) dX8_nextTo_29 rfl ?_
    refine ag_getI (q := 33) dX8_nextTo_30 rfl fl8_159 (Nat.lt_of_lt_of_le (by decide : 141 < NT) hN) (congrArg Prod.fst s_141) rfl ?_
    refine ag_icmp_lt (tgt := 45) (q := 36) dX8_nextTo_33 rfl rfl ?_ ?_
    · refine ag_bipush (q := 47) (v := -4) dX8_nextTo_45 rfl (by decide) ?_
      exact ag_iret dX8_nextTo_47 rfl rfl
    refine ag_iload_1 (q := 37) dX8_nextTo_36 rfl ?_
    refine ag_aload_0 (q := 38) dX8_nextTo_37 rfl ?_
    refine ag_getI (q := 41) dX8_nextTo_38 rfl fl8_159 (Nat.lt_of_lt_of_le (by decide : 141 < NT) hN) (congrArg Prod.fst s_141) rfl ?_
    refine ag_isub (q := 42) dX8_nextTo_41 rfl ?_
    refine ag_goto (q := 47) dX8_nextTo_42 rfl ?_
    exact ag_iret dX8_nextTo_47 rfl rfl
  refine ag_ite (fun z1 => ?_) (fun z1 => ?_)
  · refine ag_tin (k := 1) (q := 48) dX8_nextTo_1 z1 (by decide) (by decide) rfl rfl ?_
    refine ag_iload_1 (q := 49) dX8_nextTo_48 rfl ?_
    refine ag_aload_0 (q := 50) dX8_nextTo_49 rfl ?_
    refine ag_getI (q := 53) dX8_nextTo_50 rfl fl8_159 (Nat.lt_of_lt_of_le (by decide : 141 < NT) hN) (congrArg Prod.fst s_141) rfl ?_
    refine ag_irem (q := 54) dX8_nextTo_53 rfl ?_
    refine ag_aload_0 (q := 55) dX8_nextTo_54 rfl ?_
    refine ag_getI (q := 58) dX8_nextTo_55 rfl fl8_159 (Nat.lt_of_lt_of_le (by decide : 141 < NT) hN) (congrArg Prod.fst s_141) rfl ?_
    refine ag_iconst (q := 59) (v := 1) dX8_nextTo_58 rfl (by decide) ?_
    refine ag_isub (q := 60) dX8_nextTo_59 rfl ?_
    refine ag_icmp_ge (tgt := 69) (q := 63) dX8_nextTo_60 rfl rfl ?_ ?_
    · refine ag_bipush (q := 71) (v := -4) dX8_nextTo_69 rfl (by decide) ?_
      exact ag_iret dX8_nextTo_71 rfl rfl
    refine ag_iload_1 (q := 64) dX8_nextTo_63 rfl ?_
    refine ag_iconst (q := 65) (v := 1) dX8_nextTo_64 rfl (by decide) ?_
    refine ag_iadd (q := 66) dX8_nextTo_65 rfl ?_
    refine ag_goto (q := 71) dX8_nextTo_66 rfl ?_
    exact ag_iret dX8_nextTo_71 rfl rfl
  refine ag_ite (fun z2 => ?_) (fun z2 => ?_)
  · refine ag_tin (k := 2) (q := 72) dX8_nextTo_1 z2 (by decide) (by decide) rfl rfl ?_
    refine ag_iload_1 (q := 73) dX8_nextTo_72 rfl ?_
    refine ag_aload_0 (q := 74) dX8_nextTo_73 rfl ?_
    refine ag_getI (q := 77) dX8_nextTo_74 rfl fl8_159 (Nat.lt_of_lt_of_le (by decide : 141 < NT) hN) (congrArg Prod.fst s_141) rfl ?_
    refine ag_iadd (q := 78) dX8_nextTo_77 rfl ?_
    refine ag_aload_0 (q := 79) dX8_nextTo_78 rfl ?_
    refine ag_getI (q := 82) dX8_nextTo_79 rfl fl8_119 (Nat.lt_of_lt_of_le (by decide : 141 < NT) hN) (congrArg Prod.fst s_141) rfl ?_
    refine ag_icmp_ge (tgt := 94) (q := 85) dX8_nextTo_82 rfl rfl ?_ ?_
    · refine ag_bipush (q := 96) (v := -4) dX8_nextTo_94 rfl (by decide) ?_
      exact ag_iret dX8_nextTo_96 rfl rfl
    refine ag_iload_1 (q := 86) dX8_nextTo_85 rfl ?_
    refine ag_aload_0 (q := 87) dX8_nextTo_86 rfl ?_
    refine ag_getI (q := 90) dX8_nextTo_87 rfl fl8_159 (Nat.lt_of_lt_of_le (by decide : 141 < NT) hN) (congrArg Prod.fst s_141) rfl ?_
    refine ag_iadd (q := 91) dX8_nextTo_90 rfl ?_
    refine ag_goto (q := 96) dX8_nextTo_91 rfl ?_
    exact ag_iret dX8_nextTo_96 rfl rfl
  refine ag_tout (q := 97) dX8_nextTo_1 (by have q0 := lv_neT z0 (by decide : (0 : Int32).toInt = 0); have q1 := lv_neT z1 (by decide : (1 : Int32).toInt = 1); have q2 := lv_neT z2 (by decide : (2 : Int32).toInt = 2); omega) rfl ?_
  refine ag_iload_1 (q := 98) dX8_nextTo_97 rfl ?_
  refine ag_aload_0 (q := 99) dX8_nextTo_98 rfl ?_
  refine ag_getI (q := 102) dX8_nextTo_99 rfl fl8_159 (Nat.lt_of_lt_of_le (by decide : 141 < NT) hN) (congrArg Prod.fst s_141) rfl ?_
  refine ag_irem (q := 103) dX8_nextTo_102 rfl ?_
  refine ag_if_le (tgt := 112) (q := 106) dX8_nextTo_103 rfl rfl ?_ ?_
  · refine ag_bipush (q := 114) (v := -4) dX8_nextTo_112 rfl (by decide) ?_
    exact ag_iret dX8_nextTo_114 rfl rfl
  refine ag_iload_1 (q := 107) dX8_nextTo_106 rfl ?_
  refine ag_iconst (q := 108) (v := 1) dX8_nextTo_107 rfl (by decide) ?_
  refine ag_isub (q := 109) dX8_nextTo_108 rfl ?_
  refine ag_goto (q := 114) dX8_nextTo_109 rfl ?_
  exact ag_iret dX8_nextTo_114 rfl rfl
theorem C_X8_nextTo {N : Nat} (hN : NT ≤ N) (a1 : Int32) (a2 : Int32) (σ : Sg) : ∀ r, J_X8_nextTo a1 a2 σ = some r → AMc yX8_nextTo mX8_nextTo [.ref 141, .int a1, .int a2] N R0 σ (some (.int r), N, R0, σ) := fun r e => AMc.of (L := [some (.ref 141), some (.int a1), some (.int a2)]) (by decide) rfl (fun _ => rfl) (fun _ => Nat.le_of_ble_eq_true rfl) (Nat.le_refl _) (fun K => A_X8_nextTo K hN a1 a2 σ _ e)
def J_X8_onIt_b5  : Nat → Int32 → Int32 → Int32 → Sg → Option Int32
  | 0, _, _, _, _ => none
  | k + 1, x1, x2, x3, σ =>
    (if (σ 141 3) ≤ x3 then (some x2) else (if inb ((37 : Int32) + x3) 54 = true then (if (σ 157 ((37 : Int32) + x3).toNatClampNeg) = x1 then (J_X8_onIt_b5   k x1 x3 (x3 + (1)) σ) else (J_X8_onIt_b5   k x1 x2 (x3 + (1)) σ)) else none))
set_option maxHeartbeats 4000000 in
theorem A_X8_onIt_b5 (K : KT) {N : Nat} (hN : NT ≤ N)  : ∀ (k : Nat) (x1 : Int32) (x2 : Int32) (x3 : Int32) (σ : Sg), AG K mX8_onIt N (fun a : Int32 => (some (.int a), N, R0, σ)) (J_X8_onIt_b5   k x1 x2 x3 σ) 5 [some (.ref 141), some (.int x1), some (.int x2), some (.int x3)] [] σ := by
  intro k
  induction k with
  | zero => intro x1 x2 x3 σ; exact ag_none
  | succ k ih =>
    intro x1 x2 x3 σ
    rw [J_X8_onIt_b5]
    refine ag_iload_3 (q := 6) dX8_onIt_5 rfl ?_
    refine ag_aload_0 (q := 7) dX8_onIt_6 rfl ?_
    refine ag_getI (q := 10) dX8_onIt_7 rfl fl8_112 (Nat.lt_of_lt_of_le (by decide : 141 < NT) hN) (congrArg Prod.fst s_141) rfl ?_
    refine ag_icmp_ge (tgt := 38) (q := 13) dX8_onIt_10 rfl rfl ?_ ?_
    · refine ag_iload_2 (q := 39) dX8_onIt_38 rfl ?_
      exact ag_iret dX8_onIt_39 rfl rfl
    refine ag_aload_0 (q := 14) dX8_onIt_13 rfl ?_
    refine ag_getR (q := 17) dX8_onIt_14 rfl fl8_55 (Nat.lt_of_lt_of_le (by decide : 141 < NT) hN) (congrArg Prod.fst s_141) rfl r_141_31 ?_
    refine ag_bipush (q := 19) (v := 37) dX8_onIt_17 rfl (by decide) ?_
    refine ag_iload_3 (q := 20) dX8_onIt_19 rfl ?_
    refine ag_iadd (q := 21) dX8_onIt_20 rfl ?_
    refine ag_iald (q := 22) dX8_onIt_21 rfl (Nat.lt_of_lt_of_le (by decide : 157 < NT) hN) s_157 ?_
    refine ag_iload_1 (q := 23) dX8_onIt_22 rfl ?_
    refine ag_icmp_ne (tgt := 30) (q := 26) dX8_onIt_23 rfl rfl ?_ ?_
    · refine ag_iload_2 (q := 31) dX8_onIt_30 rfl ?_
      refine ag_istore_2 (q := 32) dX8_onIt_31 rfl (Nat.le_of_ble_eq_true rfl) rfl ?_
      refine ag_iinc_3 (q := 35) (d := (1)) dX8_onIt_32 rfl (Nat.le_of_ble_eq_true rfl) rfl (by decide) ?_
      refine ag_goto (q := 5) dX8_onIt_35 rfl ?_
      exact ih x1 x2 (x3 + (1)) σ
    refine ag_iload_3 (q := 27) dX8_onIt_26 rfl ?_
    refine ag_goto (q := 31) dX8_onIt_27 rfl ?_
    refine ag_istore_2 (q := 32) dX8_onIt_31 rfl (Nat.le_of_ble_eq_true rfl) rfl ?_
    refine ag_iinc_3 (q := 35) (d := (1)) dX8_onIt_32 rfl (Nat.le_of_ble_eq_true rfl) rfl (by decide) ?_
    refine ag_goto (q := 5) dX8_onIt_35 rfl ?_
    exact ih x1 x3 (x3 + (1)) σ
def J_X8_onIt (a1 : Int32) (σ : Sg) : Option Int32 :=
  (J_X8_onIt_b5   FU a1 (-4 : Int32) (0 : Int32) σ)
set_option maxHeartbeats 4000000 in
theorem A_X8_onIt (K : KT) {N : Nat} (hN : NT ≤ N) (a1 : Int32) (σ : Sg) : AG K mX8_onIt N (fun a : Int32 => (some (.int a), N, R0, σ)) (J_X8_onIt a1 σ) 0 [some (.ref 141), some (.int a1), none, none] [] σ := by
  unfold J_X8_onIt
  refine ag_bipush (q := 2) (v := -4) dX8_onIt_0 rfl (by decide) ?_
  refine ag_istore_2 (q := 3) dX8_onIt_2 rfl (Nat.le_of_ble_eq_true rfl) rfl ?_
  refine ag_iconst (q := 4) (v := 0) dX8_onIt_3 rfl (by decide) ?_
  refine ag_istore_3 (q := 5) dX8_onIt_4 rfl (Nat.le_of_ble_eq_true rfl) rfl ?_
  exact A_X8_onIt_b5 K hN   FU a1 (-4 : Int32) (0 : Int32) σ
theorem C_X8_onIt {N : Nat} (hN : NT ≤ N) (a1 : Int32) (σ : Sg) : ∀ r, J_X8_onIt a1 σ = some r → AMc yX8_onIt mX8_onIt [.ref 141, .int a1] N R0 σ (some (.int r), N, R0, σ) := fun r e => AMc.of (L := [some (.ref 141), some (.int a1), none, none]) (by decide) rfl (fun _ => rfl) (fun _ => Nat.le_of_ble_eq_true rfl) (Nat.le_refl _) (fun K => A_X8_onIt K hN a1 σ _ e)
def J_X8_isSnow  (σ : Sg) : Option Int32 :=
  (if (σ 141 8) ≤ 0 then (some (0 : Int32)) else (if (σ 141 8) = 0 then none else (if inb (rmI (σ 157 0) (σ 141 8)) 9 = true then (if (σ 145 (rmI (σ 157 0) (σ 141 8)).toNatClampNeg) = (1 : Int32) then (some (1 : Int32)) else (some (0 : Int32))) else none)))
set_option maxHeartbeats 4000000 in
theorem A_X8_isSnow (K : KT) {N : Nat} (hN : NT ≤ N)  (σ : Sg) : AG K mX8_isSnow N (fun a : Int32 => (some (.int a), N, R0, σ)) (J_X8_isSnow  σ) 0 [some (.ref 141)] [] σ := by
  unfold J_X8_isSnow
  refine ag_aload_0 (q := 1) dX8_isSnow_0 rfl ?_
  refine ag_getI (q := 4) dX8_isSnow_1 rfl fl8_172 (Nat.lt_of_lt_of_le (by decide : 141 < NT) hN) (congrArg Prod.fst s_141) rfl ?_
  refine ag_if_le (tgt := 31) (q := 7) dX8_isSnow_4 rfl rfl ?_ ?_
  · refine ag_iconst (q := 32) (v := 0) dX8_isSnow_31 rfl (by decide) ?_
    exact ag_zretK dX8_isSnow_32 rfl (by decide) rfl
  refine ag_aload_0 (q := 8) dX8_isSnow_7 rfl ?_
  refine ag_getR (q := 11) dX8_isSnow_8 rfl fl8_19 (Nat.lt_of_lt_of_le (by decide : 141 < NT) hN) (congrArg Prod.fst s_141) rfl r_141_9 ?_
  refine ag_aload_0 (q := 12) dX8_isSnow_11 rfl ?_
  refine ag_getR (q := 15) dX8_isSnow_12 rfl fl8_55 (Nat.lt_of_lt_of_le (by decide : 141 < NT) hN) (congrArg Prod.fst s_141) rfl r_141_31 ?_
  refine ag_iconst (q := 16) (v := 0) dX8_isSnow_15 rfl (by decide) ?_
  refine ag_ialdK (q := 17) (k := 0) dX8_isSnow_16 rfl (Nat.lt_of_lt_of_le (by decide : 157 < NT) hN) s_157 (by decide) (by decide) ?_
  refine ag_aload_0 (q := 18) dX8_isSnow_17 rfl ?_
  refine ag_getI (q := 21) dX8_isSnow_18 rfl fl8_172 (Nat.lt_of_lt_of_le (by decide : 141 < NT) hN) (congrArg Prod.fst s_141) rfl ?_
  refine ag_irem (q := 22) dX8_isSnow_21 rfl ?_
  refine ag_iald (q := 23) dX8_isSnow_22 rfl (Nat.lt_of_lt_of_le (by decide : 145 < NT) hN) s_145 ?_
  refine ag_iconst (q := 24) (v := 1) dX8_isSnow_23 rfl (by decide) ?_
  refine ag_icmp_ne (tgt := 31) (q := 27) dX8_isSnow_24 rfl rfl ?_ ?_
  · refine ag_iconst (q := 32) (v := 0) dX8_isSnow_31 rfl (by decide) ?_
    exact ag_zretK dX8_isSnow_32 rfl (by decide) rfl
  refine ag_iconst (q := 28) (v := 1) dX8_isSnow_27 rfl (by decide) ?_
  refine ag_goto (q := 32) dX8_isSnow_28 rfl ?_
  exact ag_zretK dX8_isSnow_32 rfl (by decide) rfl
theorem C_X8_isSnow {N : Nat} (hN : NT ≤ N)  (σ : Sg) : ∀ r, J_X8_isSnow  σ = some r → AMc yX8_isSnow mX8_isSnow [.ref 141] N R0 σ (some (.int r), N, R0, σ) := fun r e => AMc.of (L := [some (.ref 141)]) (by decide) rfl (fun _ => rfl) (fun _ => Nat.le_of_ble_eq_true rfl) (Nat.le_refl _) (fun K => A_X8_isSnow K hN  σ _ e)
