def J_X8_stands_b53  (x1 : Int32) (w0 : Int32) (σ : Sg) : Option (Unit × Sg) :=
  (if inb x1 8 = true then (if (σ 143 x1.toNatClampNeg) = (2 : Int32) then (if w0 = 0 then (some ((), (up σ 157 53 ((σ 157 53) ||| (0 : Int32))))) else (some ((), (up σ 157 53 ((σ 157 53) ||| ((1 : Int32) <<< (x1 &&& 31))))))) else (some ((), (up σ 157 53 ((σ 157 53) ||| (0 : Int32)))))) else none)
set_option maxHeartbeats 4000000 in
theorem A_X8_stands_b53 (K : KT)  (x1 : Int32) (w0 : Int32) (σ : Sg) : AG K mX8_stands (fun a : Unit × Sg => (none, NT, R0, a.2)) (J_X8_stands_b53   x1 w0 σ) 53 [some (.ref 141), some (.int x1), none, none] [.int w0] σ := by
  unfold J_X8_stands_b53
  refine ag_istore_3 (q := 54) dX8_stands_53 rfl (Nat.le_of_ble_eq_true rfl) rfl ?_
  refine ag_aload_0 (q := 55) dX8_stands_54 rfl ?_
  refine ag_getR (q := 58) dX8_stands_55 rfl fl8_55 (by decide) (congrArg Prod.fst s_141) rfl r_141_31 ?_
  refine ag_bipush (q := 60) (v := 53) dX8_stands_58 rfl (by decide) ?_
  refine ag_dup2 (q := 61) dX8_stands_60 rfl rfl rfl ?_
  refine ag_ialdK (q := 62) (k := 53) dX8_stands_61 rfl (by decide) s_157 (by decide) (by decide) ?_
  refine ag_aload_0 (q := 63) dX8_stands_62 rfl ?_
  refine ag_getR (q := 66) dX8_stands_63 rfl fl8_13 (by decide) (congrArg Prod.fst s_141) rfl r_141_4 ?_
  refine ag_iload_1 (q := 67) dX8_stands_66 rfl ?_
  refine ag_iald (q := 68) dX8_stands_67 rfl (by decide) s_143 ?_
  refine ag_iconst (q := 69) (v := 2) dX8_stands_68 rfl (by decide) ?_
  refine ag_icmp_ne (tgt := 82) (q := 72) dX8_stands_69 rfl rfl ?_ ?_
  · refine ag_iconst (q := 83) (v := 0) dX8_stands_82 rfl (by decide) ?_
    refine ag_ior (q := 84) dX8_stands_83 rfl ?_
    refine ag_iastK (q := 85) (k := 53) dX8_stands_84 rfl (by decide) s_157 (by decide) (by decide) ?_
    exact ag_vret dX8_stands_85 rfl rfl
  refine ag_iload_3 (q := 73) dX8_stands_72 rfl ?_
  refine ag_if_eq (tgt := 82) (q := 76) dX8_stands_73 rfl rfl ?_ ?_
  · refine ag_iconst (q := 83) (v := 0) dX8_stands_82 rfl (by decide) ?_
    refine ag_ior (q := 84) dX8_stands_83 rfl ?_
    refine ag_iastK (q := 85) (k := 53) dX8_stands_84 rfl (by decide) s_157 (by decide) (by decide) ?_
    exact ag_vret dX8_stands_85 rfl rfl
  refine ag_iconst (q := 77) (v := 1) dX8_stands_76 rfl (by decide) ?_
  refine ag_iload_1 (q := 78) dX8_stands_77 rfl ?_
  refine ag_ishl (q := 79) dX8_stands_78 rfl ?_
  refine ag_goto (q := 83) dX8_stands_79 rfl ?_
  refine ag_ior (q := 84) dX8_stands_83 rfl ?_
  refine ag_iastK (q := 85) (k := 53) dX8_stands_84 rfl (by decide) s_157 (by decide) (by decide) ?_
  exact ag_vret dX8_stands_85 rfl rfl
def J_X8_stands (a1 : Int32) (a2 : Int32) (σ : Sg) : Option (Unit × Sg) :=
  (if inb ((37 : Int32) + a1) 54 = true then (if inb a1 8 = true then (if ((up σ 157 ((37 : Int32) + a1).toNatClampNeg a2) 144 a1.toNatClampNeg) = 0 then (if ((up σ 157 ((37 : Int32) + a1).toNatClampNeg a2) 141 1) ≤ a2 then (J_X8_stands_b53   a1 (0 : Int32) (up σ 157 ((37 : Int32) + a1).toNatClampNeg a2)) else (J_X8_stands_b53   a1 (1 : Int32) (up σ 157 ((37 : Int32) + a1).toNatClampNeg a2))) else (if a2 < (((up σ 157 ((37 : Int32) + a1).toNatClampNeg a2) 141 0) - ((up σ 157 ((37 : Int32) + a1).toNatClampNeg a2) 141 1)) then (J_X8_stands_b53   a1 (0 : Int32) (up σ 157 ((37 : Int32) + a1).toNatClampNeg a2)) else (J_X8_stands_b53   a1 (1 : Int32) (up σ 157 ((37 : Int32) + a1).toNatClampNeg a2)))) else none) else none)
set_option maxHeartbeats 4000000 in
theorem A_X8_stands (K : KT) (a1 : Int32) (a2 : Int32) (σ : Sg) : AG K mX8_stands (fun a : Unit × Sg => (none, NT, R0, a.2)) (J_X8_stands a1 a2 σ) 0 [some (.ref 141), some (.int a1), some (.int a2), none] [] σ := by
  unfold J_X8_stands
  refine ag_aload_0 (q := 1) dX8_stands_0 rfl ?_
  refine ag_getR (q := 4) dX8_stands_1 rfl fl8_55 (by decide) (congrArg Prod.fst s_141) rfl r_141_31 ?_
  refine ag_bipush (q := 6) (v := 37) dX8_stands_4 rfl (by decide) ?_
  refine ag_iload_1 (q := 7) dX8_stands_6 rfl ?_
  refine ag_iadd (q := 8) dX8_stands_7 rfl ?_
  refine ag_iload_2 (q := 9) dX8_stands_8 rfl ?_
  refine ag_iast (q := 10) dX8_stands_9 rfl (by decide) s_157 ?_
  refine ag_aload_0 (q := 11) dX8_stands_10 rfl ?_
  refine ag_getR (q := 14) dX8_stands_11 rfl fl8_16 (by decide) (congrArg Prod.fst s_141) rfl r_141_5 ?_
  refine ag_iload_1 (q := 15) dX8_stands_14 rfl ?_
  refine ag_iald (q := 16) dX8_stands_15 rfl (by decide) s_144 ?_
  refine ag_if_ne (tgt := 35) (q := 19) dX8_stands_16 rfl rfl ?_ ?_
  · refine ag_iload_2 (q := 36) dX8_stands_35 rfl ?_
    refine ag_aload_0 (q := 37) dX8_stands_36 rfl ?_
    refine ag_getI (q := 40) dX8_stands_37 rfl fl8_119 (by decide) (congrArg Prod.fst s_141) rfl ?_
    refine ag_aload_0 (q := 41) dX8_stands_40 rfl ?_
    refine ag_getI (q := 44) dX8_stands_41 rfl fl8_159 (by decide) (congrArg Prod.fst s_141) rfl ?_
    refine ag_isub (q := 45) dX8_stands_44 rfl ?_
    refine ag_icmp_lt (tgt := 52) (q := 48) dX8_stands_45 rfl rfl ?_ ?_
    · refine ag_iconst (q := 53) (v := 0) dX8_stands_52 rfl (by decide) ?_
      refine ag_kill_2 ?_
      exact A_X8_stands_b53 K   a1 (0 : Int32) (up σ 157 ((37 : Int32) + a1).toNatClampNeg a2)
    refine ag_iconst (q := 49) (v := 1) dX8_stands_48 rfl (by decide) ?_
    refine ag_goto (q := 53) dX8_stands_49 rfl ?_
    refine ag_kill_2 ?_
    exact A_X8_stands_b53 K   a1 (1 : Int32) (up σ 157 ((37 : Int32) + a1).toNatClampNeg a2)
  refine ag_iload_2 (q := 20) dX8_stands_19 rfl ?_
  refine ag_aload_0 (q := 21) dX8_stands_20 rfl ?_
  refine ag_getI (q := 24) dX8_stands_21 rfl fl8_159 (by decide) (congrArg Prod.fst s_141) rfl ?_
  refine ag_icmp_ge (tgt := 31) (q := 27) dX8_stands_24 rfl rfl ?_ ?_
  · refine ag_iconst (q := 32) (v := 0) dX8_stands_31 rfl (by decide) ?_
    refine ag_goto (q := 53) dX8_stands_32 rfl ?_
    refine ag_kill_2 ?_
    exact A_X8_stands_b53 K   a1 (0 : Int32) (up σ 157 ((37 : Int32) + a1).toNatClampNeg a2)
  refine ag_iconst (q := 28) (v := 1) dX8_stands_27 rfl (by decide) ?_
  refine ag_goto (q := 53) dX8_stands_28 rfl ?_
  refine ag_kill_2 ?_
  exact A_X8_stands_b53 K   a1 (1 : Int32) (up σ 157 ((37 : Int32) + a1).toNatClampNeg a2)
theorem C_X8_stands (a1 : Int32) (a2 : Int32) (σ : Sg) : ∀ r s', J_X8_stands a1 a2 σ = some (r, s') → AMc yX8_stands mX8_stands [.ref 141, .int a1, .int a2] NT R0 σ (none, NT, R0, s') := fun r s' e => AMc.of (L := [some (.ref 141), some (.int a1), some (.int a2), none]) (by decide) rfl (fun _ => rfl) (fun _ => Nat.le_of_ble_eq_true rfl) (Nat.le_refl _) (fun K => A_X8_stands K a1 a2 σ _ e)
def J_X8_grazes_b62  (y2 : Int32 → Sg → Option (Unit × Sg)) (x1 : Int32) (x2 : Int32) (σ : Sg) : Option (Unit × Sg) :=
  (if x2 = (36 : Int32) then (y2 (x1 + (1)) σ) else (if inb ((45 : Int32) + x1) 54 = true then (if inb ((45 : Int32) + x1) 54 = true then (if inb ((45 : Int32) + x1) 54 = true then (if ((up σ 157 ((45 : Int32) + x1).toNatClampNeg ((σ 157 ((45 : Int32) + x1).toNatClampNeg) + (1 : Int32))) 157 ((45 : Int32) + x1).toNatClampNeg) ≤ ((up σ 157 ((45 : Int32) + x1).toNatClampNeg ((σ 157 ((45 : Int32) + x1).toNatClampNeg) + (1 : Int32))) 141 7) then (if inb ((37 : Int32) + x1) 54 = true then (y2 (x1 + (1)) (up (up σ 157 ((45 : Int32) + x1).toNatClampNeg ((σ 157 ((45 : Int32) + x1).toNatClampNeg) + (1 : Int32))) 157 ((37 : Int32) + x1).toNatClampNeg x2)) else none) else (if inb ((37 : Int32) + x1) 54 = true then (y2 (x1 + (1)) (up (up σ 157 ((45 : Int32) + x1).toNatClampNeg ((σ 157 ((45 : Int32) + x1).toNatClampNeg) + (1 : Int32))) 157 ((37 : Int32) + x1).toNatClampNeg (36 : Int32))) else none)) else none) else none) else none))
set_option maxHeartbeats 4000000 in
theorem A_X8_grazes_b62 (K : KT)  (y2 : Int32 → Sg → Option (Unit × Sg)) (hy2 : ∀ (x1 : Int32) (σ : Sg), AG K mX8_grazes (fun a : Unit × Sg => (none, NT, R0, a.2)) (y2 x1 σ) 2 [some (.ref 141), some (.int x1), none] [] σ) (x1 : Int32) (x2 : Int32) (σ : Sg) : AG K mX8_grazes (fun a : Unit × Sg => (none, NT, R0, a.2)) (J_X8_grazes_b62  y2 x1 x2 σ) 62 [some (.ref 141), some (.int x1), some (.int x2)] [] σ := by
  unfold J_X8_grazes_b62
  refine ag_iload_2 (q := 63) dX8_grazes_62 rfl ?_
  refine ag_bipush (q := 65) (v := 36) dX8_grazes_63 rfl (by decide) ?_
  refine ag_icmp_eq (tgt := 112) (q := 68) dX8_grazes_65 rfl rfl ?_ ?_
  · refine ag_iinc_1 (q := 115) (d := (1)) dX8_grazes_112 rfl (Nat.le_of_ble_eq_true rfl) rfl (by decide) ?_
    refine ag_goto (q := 2) dX8_grazes_115 rfl ?_
    refine ag_kill_2 ?_
    exact hy2 (x1 + (1)) σ
  refine ag_aload_0 (q := 69) dX8_grazes_68 rfl ?_
  refine ag_getR (q := 72) dX8_grazes_69 rfl fl8_55 (by decide) (congrArg Prod.fst s_141) rfl r_141_31 ?_
  refine ag_bipush (q := 74) (v := 45) dX8_grazes_72 rfl (by decide) ?_
  refine ag_iload_1 (q := 75) dX8_grazes_74 rfl ?_
  refine ag_iadd (q := 76) dX8_grazes_75 rfl ?_
  refine ag_dup2 (q := 77) dX8_grazes_76 rfl rfl rfl ?_
  refine ag_iald (q := 78) dX8_grazes_77 rfl (by decide) s_157 ?_
  refine ag_iconst (q := 79) (v := 1) dX8_grazes_78 rfl (by decide) ?_
  refine ag_iadd (q := 80) dX8_grazes_79 rfl ?_
  refine ag_iast (q := 81) dX8_grazes_80 rfl (by decide) s_157 ?_
  refine ag_aload_0 (q := 82) dX8_grazes_81 rfl ?_
  refine ag_getR (q := 85) dX8_grazes_82 rfl fl8_55 (by decide) (congrArg Prod.fst s_141) rfl r_141_31 ?_
  refine ag_bipush (q := 87) (v := 37) dX8_grazes_85 rfl (by decide) ?_
  refine ag_iload_1 (q := 88) dX8_grazes_87 rfl ?_
  refine ag_iadd (q := 89) dX8_grazes_88 rfl ?_
  refine ag_aload_0 (q := 90) dX8_grazes_89 rfl ?_
  refine ag_getR (q := 93) dX8_grazes_90 rfl fl8_55 (by decide) (congrArg Prod.fst s_141) rfl r_141_31 ?_
  refine ag_bipush (q := 95) (v := 45) dX8_grazes_93 rfl (by decide) ?_
  refine ag_iload_1 (q := 96) dX8_grazes_95 rfl ?_
  refine ag_iadd (q := 97) dX8_grazes_96 rfl ?_
  refine ag_iald (q := 98) dX8_grazes_97 rfl (by decide) s_157 ?_
  refine ag_aload_0 (q := 99) dX8_grazes_98 rfl ?_
  refine ag_getI (q := 102) dX8_grazes_99 rfl fl8_169 (by decide) (congrArg Prod.fst s_141) rfl ?_
  refine ag_icmp_le (tgt := 110) (q := 105) dX8_grazes_102 rfl rfl ?_ ?_
  · refine ag_iload_2 (q := 111) dX8_grazes_110 rfl ?_
    refine ag_iast (q := 112) dX8_grazes_111 rfl (by decide) s_157 ?_
    refine ag_iinc_1 (q := 115) (d := (1)) dX8_grazes_112 rfl (Nat.le_of_ble_eq_true rfl) rfl (by decide) ?_
    refine ag_goto (q := 2) dX8_grazes_115 rfl ?_
    refine ag_kill_2 ?_
    exact hy2 (x1 + (1)) (up (up σ 157 ((45 : Int32) + x1).toNatClampNeg ((σ 157 ((45 : Int32) + x1).toNatClampNeg) + (1 : Int32))) 157 ((37 : Int32) + x1).toNatClampNeg x2)
  refine ag_bipush (q := 107) (v := 36) dX8_grazes_105 rfl (by decide) ?_
  refine ag_goto (q := 111) dX8_grazes_107 rfl ?_
  refine ag_iast (q := 112) dX8_grazes_111 rfl (by decide) s_157 ?_
  refine ag_iinc_1 (q := 115) (d := (1)) dX8_grazes_112 rfl (Nat.le_of_ble_eq_true rfl) rfl (by decide) ?_
  refine ag_goto (q := 2) dX8_grazes_115 rfl ?_
  refine ag_kill_2 ?_
  exact hy2 (x1 + (1)) (up (up σ 157 ((45 : Int32) + x1).toNatClampNeg ((σ 157 ((45 : Int32) + x1).toNatClampNeg) + (1 : Int32))) 157 ((37 : Int32) + x1).toNatClampNeg (36 : Int32))
def J_X8_grazes_b2  : Nat → Int32 → Sg → Option (Unit × Sg)
  | 0, _, _ => none
  | k + 1, x1, σ =>
    (if (σ 141 3) ≤ x1 then (some ((), σ)) else (if inb ((37 : Int32) + x1) 54 = true then (if (σ 157 ((37 : Int32) + x1).toNatClampNeg) = (36 : Int32) then (J_X8_grazes_b62  (fun x1 σ => J_X8_grazes_b2   k x1 σ) x1 (σ 157 ((37 : Int32) + x1).toNatClampNeg) σ) else (if inb ((1 : Int32) + (σ 157 ((37 : Int32) + x1).toNatClampNeg)) 54 = true then (if (σ 157 ((1 : Int32) + (σ 157 ((37 : Int32) + x1).toNatClampNeg)).toNatClampNeg) ≤ 0 then (J_X8_grazes_b62  (fun x1 σ => J_X8_grazes_b2   k x1 σ) x1 (σ 157 ((37 : Int32) + x1).toNatClampNeg) σ) else (if inb ((1 : Int32) + (σ 157 ((37 : Int32) + x1).toNatClampNeg)) 54 = true then (if inb ((1 : Int32) + (σ 157 ((37 : Int32) + x1).toNatClampNeg)) 54 = true then (if inb ((45 : Int32) + x1) 54 = true then (J_X8_grazes_b2   k (x1 + (1)) (up (up σ 157 ((1 : Int32) + (σ 157 ((37 : Int32) + x1).toNatClampNeg)).toNatClampNeg ((σ 157 ((1 : Int32) + (σ 157 ((37 : Int32) + x1).toNatClampNeg)).toNatClampNeg) - (1 : Int32))) 157 ((45 : Int32) + x1).toNatClampNeg (0 : Int32))) else none) else none) else none)) else none)) else none))
set_option maxHeartbeats 4000000 in
theorem A_X8_grazes_b2 (K : KT)  : ∀ (k : Nat) (x1 : Int32) (σ : Sg), AG K mX8_grazes (fun a : Unit × Sg => (none, NT, R0, a.2)) (J_X8_grazes_b2   k x1 σ) 2 [some (.ref 141), some (.int x1), none] [] σ := by
  intro k
  induction k with
  | zero => intro x1 σ; exact ag_none
  | succ k ih =>
    intro x1 σ
    rw [J_X8_grazes_b2]
    refine ag_iload_1 (q := 3) dX8_grazes_2 rfl ?_
    refine ag_aload_0 (q := 4) dX8_grazes_3 rfl ?_
    refine ag_getI (q := 7) dX8_grazes_4 rfl fl8_112 (by decide) (congrArg Prod.fst s_141) rfl ?_
    refine ag_icmp_ge (tgt := 118) (q := 10) dX8_grazes_7 rfl rfl ?_ ?_
    · exact ag_vret dX8_grazes_118 rfl rfl
    refine ag_aload_0 (q := 11) dX8_grazes_10 rfl ?_
    refine ag_getR (q := 14) dX8_grazes_11 rfl fl8_55 (by decide) (congrArg Prod.fst s_141) rfl r_141_31 ?_
    refine ag_bipush (q := 16) (v := 37) dX8_grazes_14 rfl (by decide) ?_
    refine ag_iload_1 (q := 17) dX8_grazes_16 rfl ?_
    refine ag_iadd (q := 18) dX8_grazes_17 rfl ?_
    refine ag_iald (q := 19) dX8_grazes_18 rfl (by decide) s_157 ?_
    refine ag_istore_2 (q := 20) dX8_grazes_19 rfl (Nat.le_of_ble_eq_true rfl) rfl ?_
    refine ag_iload_2 (q := 21) dX8_grazes_20 rfl ?_
    refine ag_bipush (q := 23) (v := 36) dX8_grazes_21 rfl (by decide) ?_
    refine ag_icmp_eq (tgt := 62) (q := 26) dX8_grazes_23 rfl rfl ?_ ?_
    · exact A_X8_grazes_b62 K  (fun x1 σ => J_X8_grazes_b2   k x1 σ) (fun x1 σ => ih x1 σ) x1 (σ 157 ((37 : Int32) + x1).toNatClampNeg) σ
    refine ag_aload_0 (q := 27) dX8_grazes_26 rfl ?_
    refine ag_getR (q := 30) dX8_grazes_27 rfl fl8_55 (by decide) (congrArg Prod.fst s_141) rfl r_141_31 ?_
    refine ag_iconst (q := 31) (v := 1) dX8_grazes_30 rfl (by decide) ?_
    refine ag_iload_2 (q := 32) dX8_grazes_31 rfl ?_
    refine ag_iadd (q := 33) dX8_grazes_32 rfl ?_
    refine ag_iald (q := 34) dX8_grazes_33 rfl (by decide) s_157 ?_
    refine ag_if_le (tgt := 62) (q := 37) dX8_grazes_34 rfl rfl ?_ ?_
    · exact A_X8_grazes_b62 K  (fun x1 σ => J_X8_grazes_b2   k x1 σ) (fun x1 σ => ih x1 σ) x1 (σ 157 ((37 : Int32) + x1).toNatClampNeg) σ
    refine ag_aload_0 (q := 38) dX8_grazes_37 rfl ?_
    refine ag_getR (q := 41) dX8_grazes_38 rfl fl8_55 (by decide) (congrArg Prod.fst s_141) rfl r_141_31 ?_
    refine ag_iconst (q := 42) (v := 1) dX8_grazes_41 rfl (by decide) ?_
    refine ag_iload_2 (q := 43) dX8_grazes_42 rfl ?_
    refine ag_iadd (q := 44) dX8_grazes_43 rfl ?_
    refine ag_dup2 (q := 45) dX8_grazes_44 rfl rfl rfl ?_
    refine ag_iald (q := 46) dX8_grazes_45 rfl (by decide) s_157 ?_
    refine ag_iconst (q := 47) (v := 1) dX8_grazes_46 rfl (by decide) ?_
    refine ag_isub (q := 48) dX8_grazes_47 rfl ?_
    refine ag_iast (q := 49) dX8_grazes_48 rfl (by decide) s_157 ?_
    refine ag_aload_0 (q := 50) dX8_grazes_49 rfl ?_
    refine ag_getR (q := 53) dX8_grazes_50 rfl fl8_55 (by decide) (congrArg Prod.fst s_141) rfl r_141_31 ?_
    refine ag_bipush (q := 55) (v := 45) dX8_grazes_53 rfl (by decide) ?_
    refine ag_iload_1 (q := 56) dX8_grazes_55 rfl ?_
    refine ag_iadd (q := 57) dX8_grazes_56 rfl ?_
    refine ag_iconst (q := 58) (v := 0) dX8_grazes_57 rfl (by decide) ?_
    refine ag_iast (q := 59) dX8_grazes_58 rfl (by decide) s_157 ?_
    refine ag_goto (q := 112) dX8_grazes_59 rfl ?_
    refine ag_iinc_1 (q := 115) (d := (1)) dX8_grazes_112 rfl (Nat.le_of_ble_eq_true rfl) rfl (by decide) ?_
    refine ag_goto (q := 2) dX8_grazes_115 rfl ?_
    refine ag_kill_2 ?_
    exact ih (x1 + (1)) (up (up σ 157 ((1 : Int32) + (σ 157 ((37 : Int32) + x1).toNatClampNeg)).toNatClampNeg ((σ 157 ((1 : Int32) + (σ 157 ((37 : Int32) + x1).toNatClampNeg)).toNatClampNeg) - (1 : Int32))) 157 ((45 : Int32) + x1).toNatClampNeg (0 : Int32))
def J_X8_grazes  (σ : Sg) : Option (Unit × Sg) :=
  (J_X8_grazes_b2   FU (0 : Int32) σ)
set_option maxHeartbeats 4000000 in
theorem A_X8_grazes (K : KT)  (σ : Sg) : AG K mX8_grazes (fun a : Unit × Sg => (none, NT, R0, a.2)) (J_X8_grazes  σ) 0 [some (.ref 141), none, none] [] σ := by
  unfold J_X8_grazes
  refine ag_iconst (q := 1) (v := 0) dX8_grazes_0 rfl (by decide) ?_
  refine ag_istore_1 (q := 2) dX8_grazes_1 rfl (Nat.le_of_ble_eq_true rfl) rfl ?_
  exact A_X8_grazes_b2 K   FU (0 : Int32) σ
theorem C_X8_grazes  (σ : Sg) : ∀ r s', J_X8_grazes  σ = some (r, s') → AMc yX8_grazes mX8_grazes [.ref 141] NT R0 σ (none, NT, R0, s') := fun r s' e => AMc.of (L := [some (.ref 141), none, none]) (by decide) rfl (fun _ => rfl) (fun _ => Nat.le_of_ble_eq_true rfl) (Nat.le_refl _) (fun K => A_X8_grazes K  σ _ e)
def J_X8_nextDay_b12  : Nat → Int32 → Sg → Option (Unit × Sg)
  | 0, _, _ => none
  | k + 1, x1, σ =>
    (if (σ 141 0) ≤ x1 then (some ((), σ)) else (if (rmI (σ 157 0) (9 : Int32)) = 0 then (if inb ((1 : Int32) + x1) 54 = true then (if inb x1 36 = true then (if (σ 142 x1.toNatClampNeg) = (9 : Int32) then (if inb ((1 : Int32) + x1) 54 = true then (J_X8_nextDay_b12   k (x1 + (1)) (up σ 157 ((1 : Int32) + x1).toNatClampNeg ((σ 157 ((1 : Int32) + x1).toNatClampNeg) + (0 : Int32)))) else none) else (bd1 (J_X8_onIt x1 σ) fun r54 => (if 0 ≤ r54 then (if inb ((1 : Int32) + x1) 54 = true then (J_X8_nextDay_b12   k (x1 + (1)) (up σ 157 ((1 : Int32) + x1).toNatClampNeg ((σ 157 ((1 : Int32) + x1).toNatClampNeg) + (0 : Int32)))) else none) else (if inb ((1 : Int32) + x1) 54 = true then (if (8 : Int32) ≤ (σ 157 ((1 : Int32) + x1).toNatClampNeg) then (if inb ((1 : Int32) + x1) 54 = true then (J_X8_nextDay_b12   k (x1 + (1)) (up σ 157 ((1 : Int32) + x1).toNatClampNeg ((σ 157 ((1 : Int32) + x1).toNatClampNeg) + (0 : Int32)))) else none) else (if inb ((1 : Int32) + x1) 54 = true then (J_X8_nextDay_b12   k (x1 + (1)) (up σ 157 ((1 : Int32) + x1).toNatClampNeg ((σ 157 ((1 : Int32) + x1).toNatClampNeg) + (1 : Int32)))) else none)) else none)))) else none) else none) else (some ((), σ))))
set_option maxHeartbeats 4000000 in
theorem A_X8_nextDay_b12 (K : KT)  : ∀ (k : Nat) (x1 : Int32) (σ : Sg), AG K mX8_nextDay (fun a : Unit × Sg => (none, NT, R0, a.2)) (J_X8_nextDay_b12   k x1 σ) 12 [some (.ref 141), some (.int x1)] [] σ := by
  intro k
  induction k with
  | zero => intro x1 σ; exact ag_none
  | succ k ih =>
    intro x1 σ
    rw [J_X8_nextDay_b12]
    refine ag_iload_1 (q := 13) dX8_nextDay_12 rfl ?_
    refine ag_aload_0 (q := 14) dX8_nextDay_13 rfl ?_
    refine ag_getI (q := 17) dX8_nextDay_14 rfl fl8_119 (by decide) (congrArg Prod.fst s_141) rfl ?_
    refine ag_icmp_ge (tgt := 86) (q := 20) dX8_nextDay_17 rfl rfl ?_ ?_
    · exact ag_vret dX8_nextDay_86 rfl rfl
    refine ag_aload_0 (q := 21) dX8_nextDay_20 rfl ?_
    refine ag_getR (q := 24) dX8_nextDay_21 rfl fl8_55 (by decide) (congrArg Prod.fst s_141) rfl r_141_31 ?_
    refine ag_iconst (q := 25) (v := 0) dX8_nextDay_24 rfl (by decide) ?_
    refine ag_ialdK (q := 26) (k := 0) dX8_nextDay_25 rfl (by decide) s_157 (by decide) (by decide) ?_
    refine ag_bipush (q := 28) (v := 9) dX8_nextDay_26 rfl (by decide) ?_
    refine ag_iremK (q := 29) dX8_nextDay_28 rfl (by decide) ?_
    refine ag_if_ne (tgt := 86) (q := 32) dX8_nextDay_29 rfl rfl ?_ ?_
    · exact ag_vret dX8_nextDay_86 rfl rfl
    refine ag_aload_0 (q := 33) dX8_nextDay_32 rfl ?_
    refine ag_getR (q := 36) dX8_nextDay_33 rfl fl8_55 (by decide) (congrArg Prod.fst s_141) rfl r_141_31 ?_
    refine ag_iconst (q := 37) (v := 1) dX8_nextDay_36 rfl (by decide) ?_
    refine ag_iload_1 (q := 38) dX8_nextDay_37 rfl ?_
    refine ag_iadd (q := 39) dX8_nextDay_38 rfl ?_
    refine ag_dup2 (q := 40) dX8_nextDay_39 rfl rfl rfl ?_
    refine ag_iald (q := 41) dX8_nextDay_40 rfl (by decide) s_157 ?_
    refine ag_aload_0 (q := 42) dX8_nextDay_41 rfl ?_
    refine ag_getR (q := 45) dX8_nextDay_42 rfl fl8_7 (by decide) (congrArg Prod.fst s_141) rfl r_141_2 ?_
    refine ag_iload_1 (q := 46) dX8_nextDay_45 rfl ?_
    refine ag_iald (q := 47) dX8_nextDay_46 rfl (by decide) s_142 ?_
    refine ag_bipush (q := 49) (v := 9) dX8_nextDay_47 rfl (by decide) ?_
    refine ag_icmp_eq (tgt := 77) (q := 52) dX8_nextDay_49 rfl rfl ?_ ?_
    · refine ag_iconst (q := 78) (v := 0) dX8_nextDay_77 rfl (by decide) ?_
      refine ag_iadd (q := 79) dX8_nextDay_78 rfl ?_
      refine ag_iast (q := 80) dX8_nextDay_79 rfl (by decide) s_157 ?_
      refine ag_iinc_1 (q := 83) (d := (1)) dX8_nextDay_80 rfl (Nat.le_of_ble_eq_true rfl) rfl (by decide) ?_
      refine ag_goto (q := 12) dX8_nextDay_83 rfl ?_
      exact ih (x1 + (1)) (up σ 157 ((1 : Int32) + x1).toNatClampNeg ((σ 157 ((1 : Int32) + x1).toNatClampNeg) + (0 : Int32)))
    refine ag_aload_0 (q := 53) dX8_nextDay_52 rfl ?_
    refine ag_iload_1 (q := 54) dX8_nextDay_53 rfl ?_
    refine ag_callV_pI (q := 57) (av := [.int _]) (rest := [.int _, .int _, .ref _]) dX8_nextDay_54 rfl lk8_189 (C_X8_onIt x1 _) (by decide) (Nat.le_of_ble_eq_true rfl) (by decide) (congrArg Prod.fst s_141) (by decide) (fun _ => rfl) (Nat.le_of_ble_eq_true rfl) rfl (fun r54 e54 => ?_)
    refine ag_if_ge (tgt := 77) (q := 60) dX8_nextDay_57 rfl rfl ?_ ?_
    · refine ag_iconst (q := 78) (v := 0) dX8_nextDay_77 rfl (by decide) ?_
      refine ag_iadd (q := 79) dX8_nextDay_78 rfl ?_
      refine ag_iast (q := 80) dX8_nextDay_79 rfl (by decide) s_157 ?_
      refine ag_iinc_1 (q := 83) (d := (1)) dX8_nextDay_80 rfl (Nat.le_of_ble_eq_true rfl) rfl (by decide) ?_
      refine ag_goto (q := 12) dX8_nextDay_83 rfl ?_
      exact ih (x1 + (1)) (up σ 157 ((1 : Int32) + x1).toNatClampNeg ((σ 157 ((1 : Int32) + x1).toNatClampNeg) + (0 : Int32)))
    refine ag_aload_0 (q := 61) dX8_nextDay_60 rfl ?_
    refine ag_getR (q := 64) dX8_nextDay_61 rfl fl8_55 (by decide) (congrArg Prod.fst s_141) rfl r_141_31 ?_
    refine ag_iconst (q := 65) (v := 1) dX8_nextDay_64 rfl (by decide) ?_
    refine ag_iload_1 (q := 66) dX8_nextDay_65 rfl ?_
    refine ag_iadd (q := 67) dX8_nextDay_66 rfl ?_
    refine ag_iald (q := 68) dX8_nextDay_67 rfl (by decide) s_157 ?_
    refine ag_bipush (q := 70) (v := 8) dX8_nextDay_68 rfl (by decide) ?_
    refine ag_icmp_ge (tgt := 77) (q := 73) dX8_nextDay_70 rfl rfl ?_ ?_
    · refine ag_iconst (q := 78) (v := 0) dX8_nextDay_77 rfl (by decide) ?_
      refine ag_iadd (q := 79) dX8_nextDay_78 rfl ?_
      refine ag_iast (q := 80) dX8_nextDay_79 rfl (by decide) s_157 ?_
      refine ag_iinc_1 (q := 83) (d := (1)) dX8_nextDay_80 rfl (Nat.le_of_ble_eq_true rfl) rfl (by decide) ?_
      refine ag_goto (q := 12) dX8_nextDay_83 rfl ?_
      exact ih (x1 + (1)) (up σ 157 ((1 : Int32) + x1).toNatClampNeg ((σ 157 ((1 : Int32) + x1).toNatClampNeg) + (0 : Int32)))
    refine ag_iconst (q := 74) (v := 1) dX8_nextDay_73 rfl (by decide) ?_
    refine ag_goto (q := 78) dX8_nextDay_74 rfl ?_
    refine ag_iadd (q := 79) dX8_nextDay_78 rfl ?_
    refine ag_iast (q := 80) dX8_nextDay_79 rfl (by decide) s_157 ?_
    refine ag_iinc_1 (q := 83) (d := (1)) dX8_nextDay_80 rfl (Nat.le_of_ble_eq_true rfl) rfl (by decide) ?_
    refine ag_goto (q := 12) dX8_nextDay_83 rfl ?_
    exact ih (x1 + (1)) (up σ 157 ((1 : Int32) + x1).toNatClampNeg ((σ 157 ((1 : Int32) + x1).toNatClampNeg) + (1 : Int32)))
def J_X8_nextDay  (σ : Sg) : Option (Unit × Sg) :=
  (J_X8_nextDay_b12   FU (0 : Int32) (up σ 157 0 ((σ 157 0) + (1 : Int32))))
set_option maxHeartbeats 4000000 in
theorem A_X8_nextDay (K : KT)  (σ : Sg) : AG K mX8_nextDay (fun a : Unit × Sg => (none, NT, R0, a.2)) (J_X8_nextDay  σ) 0 [some (.ref 141), none] [] σ := by
  unfold J_X8_nextDay
  refine ag_aload_0 (q := 1) dX8_nextDay_0 rfl ?_
  refine ag_getR (q := 4) dX8_nextDay_1 rfl fl8_55 (by decide) (congrArg Prod.fst s_141) rfl r_141_31 ?_
  refine ag_iconst (q := 5) (v := 0) dX8_nextDay_4 rfl (by decide) ?_
  refine ag_dup2 (q := 6) dX8_nextDay_5 rfl rfl rfl ?_
  refine ag_ialdK (q := 7) (k := 0) dX8_nextDay_6 rfl (by decide) s_157 (by decide) (by decide) ?_
  refine ag_iconst (q := 8) (v := 1) dX8_nextDay_7 rfl (by decide) ?_
  refine ag_iadd (q := 9) dX8_nextDay_8 rfl ?_
  refine ag_iastK (q := 10) (k := 0) dX8_nextDay_9 rfl (by decide) s_157 (by decide) (by decide) ?_
  refine ag_iconst (q := 11) (v := 0) dX8_nextDay_10 rfl (by decide) ?_
  refine ag_istore_1 (q := 12) dX8_nextDay_11 rfl (Nat.le_of_ble_eq_true rfl) rfl ?_
  exact A_X8_nextDay_b12 K   FU (0 : Int32) (up σ 157 0 ((σ 157 0) + (1 : Int32)))
theorem C_X8_nextDay  (σ : Sg) : ∀ r s', J_X8_nextDay  σ = some (r, s') → AMc yX8_nextDay mX8_nextDay [.ref 141] NT R0 σ (none, NT, R0, s') := fun r s' e => AMc.of (L := [some (.ref 141), none]) (by decide) rfl (fun _ => rfl) (fun _ => Nat.le_of_ble_eq_true rfl) (Nat.le_refl _) (fun K => A_X8_nextDay K  σ _ e)
def J_X8_goesBy (a1 : Int32) (σ : Sg) : Option (Unit × Sg) :=
  (if a1 = (99 : Int32) then (bd2 (J_X8_grazes  σ) fun r50 s50 => (bd2 (J_X8_nextDay  s50) fun r54 s54 => (some ((), s54)))) else (bd2 (J_X8_comesTo (a1 / (10 : Int32)) (rmI a1 (10 : Int32)) (1 : Int32) σ) fun r18 s18 => (if (s18 141 32) < 0 then (bd2 (J_X8_stands (a1 / (10 : Int32)) r18 s18) fun r46 s46 => (bd2 (J_X8_grazes  s46) fun r50 s50 => (bd2 (J_X8_nextDay  s50) fun r54 s54 => (some ((), s54))))) else (if inb ((37 : Int32) + (s18 141 32)) 54 = true then (bd2 (J_X8_stands (a1 / (10 : Int32)) r18 (up s18 157 ((37 : Int32) + (s18 141 32)).toNatClampNeg (36 : Int32))) fun r46 s46 => (bd2 (J_X8_grazes  s46) fun r50 s50 => (bd2 (J_X8_nextDay  s50) fun r54 s54 => (some ((), s54))))) else none))))
set_option maxHeartbeats 4000000 in
theorem A_X8_goesBy (K : KT) (a1 : Int32) (σ : Sg) : AG K mX8_goesBy (fun a : Unit × Sg => (none, NT, R0, a.2)) (J_X8_goesBy a1 σ) 0 [some (.ref 141), some (.int a1), none, none] [] σ := by
  unfold J_X8_goesBy
  refine ag_iload_1 (q := 1) dX8_goesBy_0 rfl ?_
  refine ag_bipush (q := 3) (v := 99) dX8_goesBy_1 rfl (by decide) ?_
  refine ag_icmp_eq (tgt := 49) (q := 6) dX8_goesBy_3 rfl rfl ?_ ?_
  · refine ag_aload_0 (q := 50) dX8_goesBy_49 rfl ?_
    refine ag_callV_mU (q := 53) (av := []) (rest := []) dX8_goesBy_50 rfl lk8_216 (C_X8_grazes  _) (by decide) (Nat.le_of_ble_eq_true rfl) (by decide) (congrArg Prod.fst s_141) (by decide) (fun _ => rfl) (Nat.le_of_ble_eq_true rfl) rfl (fun r50 s50 e50 => ?_)
    refine ag_aload_0 (q := 54) dX8_goesBy_53 rfl ?_
    refine ag_callV_mU (q := 57) (av := []) (rest := []) dX8_goesBy_54 rfl lk8_219 (C_X8_nextDay  _) (by decide) (Nat.le_of_ble_eq_true rfl) (by decide) (congrArg Prod.fst s_141) (by decide) (fun _ => rfl) (Nat.le_of_ble_eq_true rfl) rfl (fun r54 s54 e54 => ?_)
    exact ag_vret dX8_goesBy_57 rfl rfl
  refine ag_iload_1 (q := 7) dX8_goesBy_6 rfl ?_
  refine ag_bipush (q := 9) (v := 10) dX8_goesBy_7 rfl (by decide) ?_
  refine ag_idivK (q := 10) dX8_goesBy_9 rfl (by decide) ?_
  refine ag_istore_2 (q := 11) dX8_goesBy_10 rfl (Nat.le_of_ble_eq_true rfl) rfl ?_
  refine ag_aload_0 (q := 12) dX8_goesBy_11 rfl ?_
  refine ag_iload_2 (q := 13) dX8_goesBy_12 rfl ?_
  refine ag_iload_1 (q := 14) dX8_goesBy_13 rfl ?_
  refine ag_bipush (q := 16) (v := 10) dX8_goesBy_14 rfl (by decide) ?_
  refine ag_iremK (q := 17) dX8_goesBy_16 rfl (by decide) ?_
  refine ag_iconst (q := 18) (v := 1) dX8_goesBy_17 rfl (by decide) ?_
  refine ag_callV_mI (q := 21) (av := [.int _, .int _, .int _]) (rest := []) dX8_goesBy_18 rfl lk8_208 (C_X8_comesTo (a1 / (10 : Int32)) (rmI a1 (10 : Int32)) (1 : Int32) _) (by decide) (Nat.le_of_ble_eq_true rfl) (by decide) (congrArg Prod.fst s_141) (by decide) (fun _ => rfl) (Nat.le_of_ble_eq_true rfl) rfl (fun r18 s18 e18 => ?_)
  refine ag_istore_3 (q := 22) dX8_goesBy_21 rfl (Nat.le_of_ble_eq_true rfl) rfl ?_
  refine ag_aload_0 (q := 23) dX8_goesBy_22 rfl ?_
  refine ag_getI (q := 26) dX8_goesBy_23 rfl fl8_198 (by decide) (congrArg Prod.fst s_141) rfl ?_
  refine ag_if_lt (tgt := 43) (q := 29) dX8_goesBy_26 rfl rfl ?_ ?_
  · refine ag_aload_0 (q := 44) dX8_goesBy_43 rfl ?_
    refine ag_iload_2 (q := 45) dX8_goesBy_44 rfl ?_
    refine ag_iload_3 (q := 46) dX8_goesBy_45 rfl ?_
    refine ag_callV_mU (q := 49) (av := [.int _, .int _]) (rest := []) dX8_goesBy_46 rfl lk8_212 (C_X8_stands (a1 / (10 : Int32)) r18 _) (by decide) (Nat.le_of_ble_eq_true rfl) (by decide) (congrArg Prod.fst s_141) (by decide) (fun _ => rfl) (Nat.le_of_ble_eq_true rfl) rfl (fun r46 s46 e46 => ?_)
    refine ag_aload_0 (q := 50) dX8_goesBy_49 rfl ?_
    refine ag_callV_mU (q := 53) (av := []) (rest := []) dX8_goesBy_50 rfl lk8_216 (C_X8_grazes  _) (by decide) (Nat.le_of_ble_eq_true rfl) (by decide) (congrArg Prod.fst s_141) (by decide) (fun _ => rfl) (Nat.le_of_ble_eq_true rfl) rfl (fun r50 s50 e50 => ?_)
    refine ag_aload_0 (q := 54) dX8_goesBy_53 rfl ?_
    refine ag_callV_mU (q := 57) (av := []) (rest := []) dX8_goesBy_54 rfl lk8_219 (C_X8_nextDay  _) (by decide) (Nat.le_of_ble_eq_true rfl) (by decide) (congrArg Prod.fst s_141) (by decide) (fun _ => rfl) (Nat.le_of_ble_eq_true rfl) rfl (fun r54 s54 e54 => ?_)
    exact ag_vret dX8_goesBy_57 rfl rfl
  refine ag_aload_0 (q := 30) dX8_goesBy_29 rfl ?_
  refine ag_getR (q := 33) dX8_goesBy_30 rfl fl8_55 (by decide) (congrArg Prod.fst s_141) rfl r_141_31 ?_
  refine ag_bipush (q := 35) (v := 37) dX8_goesBy_33 rfl (by decide) ?_
  refine ag_aload_0 (q := 36) dX8_goesBy_35 rfl ?_
  refine ag_getI (q := 39) dX8_goesBy_36 rfl fl8_198 (by decide) (congrArg Prod.fst s_141) rfl ?_
  refine ag_iadd (q := 40) dX8_goesBy_39 rfl ?_
  refine ag_bipush (q := 42) (v := 36) dX8_goesBy_40 rfl (by decide) ?_
  refine ag_iast (q := 43) dX8_goesBy_42 rfl (by decide) s_157 ?_
  refine ag_aload_0 (q := 44) dX8_goesBy_43 rfl ?_
  refine ag_iload_2 (q := 45) dX8_goesBy_44 rfl ?_
  refine ag_iload_3 (q := 46) dX8_goesBy_45 rfl ?_
  refine ag_callV_mU (q := 49) (av := [.int _, .int _]) (rest := []) dX8_goesBy_46 rfl lk8_212 (C_X8_stands (a1 / (10 : Int32)) r18 _) (by decide) (Nat.le_of_ble_eq_true rfl) (by decide) (congrArg Prod.fst s_141) (by decide) (fun _ => rfl) (Nat.le_of_ble_eq_true rfl) rfl (fun r46 s46 e46 => ?_)
  refine ag_aload_0 (q := 50) dX8_goesBy_49 rfl ?_
  refine ag_callV_mU (q := 53) (av := []) (rest := []) dX8_goesBy_50 rfl lk8_216 (C_X8_grazes  _) (by decide) (Nat.le_of_ble_eq_true rfl) (by decide) (congrArg Prod.fst s_141) (by decide) (fun _ => rfl) (Nat.le_of_ble_eq_true rfl) rfl (fun r50 s50 e50 => ?_)
  refine ag_aload_0 (q := 54) dX8_goesBy_53 rfl ?_
  refine ag_callV_mU (q := 57) (av := []) (rest := []) dX8_goesBy_54 rfl lk8_219 (C_X8_nextDay  _) (by decide) (Nat.le_of_ble_eq_true rfl) (by decide) (congrArg Prod.fst s_141) (by decide) (fun _ => rfl) (Nat.le_of_ble_eq_true rfl) rfl (fun r54 s54 e54 => ?_)
  exact ag_vret dX8_goesBy_57 rfl rfl
theorem C_X8_goesBy (a1 : Int32) (σ : Sg) : ∀ r s', J_X8_goesBy a1 σ = some (r, s') → AMc yX8_goesBy mX8_goesBy [.ref 141, .int a1] NT R0 σ (none, NT, R0, s') := fun r s' e => AMc.of (L := [some (.ref 141), some (.int a1), none, none]) (by decide) rfl (fun _ => rfl) (fun _ => Nat.le_of_ble_eq_true rfl) (Nat.le_refl _) (fun K => A_X8_goesBy K a1 σ _ e)
def J_X8_lost_b37  (y6 : Int32 → Int32 → Int32 → Sg → Option Int32) (x2 : Int32) (x3 : Int32) (w0 : Int32) (w1 : Int32) (σ : Sg) : Option Int32 :=
  (if inb x3 8 = true then (if (σ 143 x3.toNatClampNeg) = (3 : Int32) then (if inb ((37 : Int32) + x3) 54 = true then (if (σ 157 ((37 : Int32) + x3).toNatClampNeg) = (36 : Int32) then (y6 (w1 ||| w0) (x2 ||| (0 : Int32)) (x3 + (1)) σ) else (if inb x3 8 = true then (y6 (w1 ||| w0) (x2 ||| ((1 : Int32) <<< ((σ 144 x3.toNatClampNeg) &&& 31))) (x3 + (1)) σ) else none)) else none) else (y6 (w1 ||| w0) (x2 ||| (0 : Int32)) (x3 + (1)) σ)) else none)
set_option maxHeartbeats 4000000 in
theorem A_X8_lost_b37 (K : KT)  (y6 : Int32 → Int32 → Int32 → Sg → Option Int32) (hy6 : ∀ (x1 : Int32) (x2 : Int32) (x3 : Int32) (σ : Sg), AG K mX8_lost (fun a : Int32 => (some (.int a), NT, R0, σ)) (y6 x1 x2 x3 σ) 6 [some (.ref 141), some (.int x1), some (.int x2), some (.int x3)] [] σ) (x2 : Int32) (x3 : Int32) (w0 : Int32) (w1 : Int32) (σ : Sg) : AG K mX8_lost (fun a : Int32 => (some (.int a), NT, R0, σ)) (J_X8_lost_b37  y6 x2 x3 w0 w1 σ) 37 [some (.ref 141), none, some (.int x2), some (.int x3)] [.int w0, .int w1] σ := by
  unfold J_X8_lost_b37
  refine ag_ior (q := 38) dX8_lost_37 rfl ?_
  refine ag_istore_1 (q := 39) dX8_lost_38 rfl (Nat.le_of_ble_eq_true rfl) rfl ?_
  refine ag_iload_2 (q := 40) dX8_lost_39 rfl ?_
  refine ag_aload_0 (q := 41) dX8_lost_40 rfl ?_
  refine ag_getR (q := 44) dX8_lost_41 rfl fl8_13 (by decide) (congrArg Prod.fst s_141) rfl r_141_4 ?_
  refine ag_iload_3 (q := 45) dX8_lost_44 rfl ?_
  refine ag_iald (q := 46) dX8_lost_45 rfl (by decide) s_143 ?_
  refine ag_iconst (q := 47) (v := 3) dX8_lost_46 rfl (by decide) ?_
  refine ag_icmp_ne (tgt := 75) (q := 50) dX8_lost_47 rfl rfl ?_ ?_
  · refine ag_iconst (q := 76) (v := 0) dX8_lost_75 rfl (by decide) ?_
    refine ag_ior (q := 77) dX8_lost_76 rfl ?_
    refine ag_istore_2 (q := 78) dX8_lost_77 rfl (Nat.le_of_ble_eq_true rfl) rfl ?_
    refine ag_iinc_3 (q := 81) (d := (1)) dX8_lost_78 rfl (Nat.le_of_ble_eq_true rfl) rfl (by decide) ?_
    refine ag_goto (q := 6) dX8_lost_81 rfl ?_
    exact hy6 (w1 ||| w0) (x2 ||| (0 : Int32)) (x3 + (1)) σ
  refine ag_aload_0 (q := 51) dX8_lost_50 rfl ?_
  refine ag_getR (q := 54) dX8_lost_51 rfl fl8_55 (by decide) (congrArg Prod.fst s_141) rfl r_141_31 ?_
  refine ag_bipush (q := 56) (v := 37) dX8_lost_54 rfl (by decide) ?_
  refine ag_iload_3 (q := 57) dX8_lost_56 rfl ?_
  refine ag_iadd (q := 58) dX8_lost_57 rfl ?_
  refine ag_iald (q := 59) dX8_lost_58 rfl (by decide) s_157 ?_
  refine ag_bipush (q := 61) (v := 36) dX8_lost_59 rfl (by decide) ?_
  refine ag_icmp_eq (tgt := 75) (q := 64) dX8_lost_61 rfl rfl ?_ ?_
  · refine ag_iconst (q := 76) (v := 0) dX8_lost_75 rfl (by decide) ?_
    refine ag_ior (q := 77) dX8_lost_76 rfl ?_
    refine ag_istore_2 (q := 78) dX8_lost_77 rfl (Nat.le_of_ble_eq_true rfl) rfl ?_
    refine ag_iinc_3 (q := 81) (d := (1)) dX8_lost_78 rfl (Nat.le_of_ble_eq_true rfl) rfl (by decide) ?_
    refine ag_goto (q := 6) dX8_lost_81 rfl ?_
    exact hy6 (w1 ||| w0) (x2 ||| (0 : Int32)) (x3 + (1)) σ
  refine ag_iconst (q := 65) (v := 1) dX8_lost_64 rfl (by decide) ?_
  refine ag_aload_0 (q := 66) dX8_lost_65 rfl ?_
  refine ag_getR (q := 69) dX8_lost_66 rfl fl8_16 (by decide) (congrArg Prod.fst s_141) rfl r_141_5 ?_
  refine ag_iload_3 (q := 70) dX8_lost_69 rfl ?_
  refine ag_iald (q := 71) dX8_lost_70 rfl (by decide) s_144 ?_
  refine ag_ishl (q := 72) dX8_lost_71 rfl ?_
  refine ag_goto (q := 76) dX8_lost_72 rfl ?_
  refine ag_ior (q := 77) dX8_lost_76 rfl ?_
  refine ag_istore_2 (q := 78) dX8_lost_77 rfl (Nat.le_of_ble_eq_true rfl) rfl ?_
  refine ag_iinc_3 (q := 81) (d := (1)) dX8_lost_78 rfl (Nat.le_of_ble_eq_true rfl) rfl (by decide) ?_
  refine ag_goto (q := 6) dX8_lost_81 rfl ?_
  exact hy6 (w1 ||| w0) (x2 ||| ((1 : Int32) <<< ((σ 144 x3.toNatClampNeg) &&& 31))) (x3 + (1)) σ
def J_X8_lost_b6  : Nat → Int32 → Int32 → Int32 → Sg → Option Int32
  | 0, _, _, _, _ => none
  | k + 1, x1, x2, x3, σ =>
    (if (σ 141 3) ≤ x3 then (some (x1 &&& (x2 ^^^ (-1 : Int32)))) else (if inb x3 8 = true then (if (σ 143 x3.toNatClampNeg) = (3 : Int32) then (if inb x3 8 = true then (J_X8_lost_b37  (fun x1 x2 x3 σ => J_X8_lost_b6   k x1 x2 x3 σ) x2 x3 ((1 : Int32) <<< ((σ 144 x3.toNatClampNeg) &&& 31)) x1 σ) else none) else (J_X8_lost_b37  (fun x1 x2 x3 σ => J_X8_lost_b6   k x1 x2 x3 σ) x2 x3 (0 : Int32) x1 σ)) else none))
set_option maxHeartbeats 4000000 in
theorem A_X8_lost_b6 (K : KT)  : ∀ (k : Nat) (x1 : Int32) (x2 : Int32) (x3 : Int32) (σ : Sg), AG K mX8_lost (fun a : Int32 => (some (.int a), NT, R0, σ)) (J_X8_lost_b6   k x1 x2 x3 σ) 6 [some (.ref 141), some (.int x1), some (.int x2), some (.int x3)] [] σ := by
  intro k
  induction k with
  | zero => intro x1 x2 x3 σ; exact ag_none
  | succ k ih =>
    intro x1 x2 x3 σ
    rw [J_X8_lost_b6]
    refine ag_iload_3 (q := 7) dX8_lost_6 rfl ?_
    refine ag_aload_0 (q := 8) dX8_lost_7 rfl ?_
    refine ag_getI (q := 11) dX8_lost_8 rfl fl8_112 (by decide) (congrArg Prod.fst s_141) rfl ?_
    refine ag_icmp_ge (tgt := 84) (q := 14) dX8_lost_11 rfl rfl ?_ ?_
    · refine ag_iload_1 (q := 85) dX8_lost_84 rfl ?_
      refine ag_iload_2 (q := 86) dX8_lost_85 rfl ?_
      refine ag_iconst (q := 87) (v := -1) dX8_lost_86 rfl (by decide) ?_
      refine ag_ixor (q := 88) dX8_lost_87 rfl ?_
      refine ag_iand (q := 89) dX8_lost_88 rfl ?_
      exact ag_iret dX8_lost_89 rfl rfl
    refine ag_iload_1 (q := 15) dX8_lost_14 rfl ?_
    refine ag_aload_0 (q := 16) dX8_lost_15 rfl ?_
    refine ag_getR (q := 19) dX8_lost_16 rfl fl8_13 (by decide) (congrArg Prod.fst s_141) rfl r_141_4 ?_
    refine ag_iload_3 (q := 20) dX8_lost_19 rfl ?_
    refine ag_iald (q := 21) dX8_lost_20 rfl (by decide) s_143 ?_
    refine ag_iconst (q := 22) (v := 3) dX8_lost_21 rfl (by decide) ?_
    refine ag_icmp_ne (tgt := 36) (q := 25) dX8_lost_22 rfl rfl ?_ ?_
    · refine ag_iconst (q := 37) (v := 0) dX8_lost_36 rfl (by decide) ?_
      refine ag_kill_1 ?_
      exact A_X8_lost_b37 K  (fun x1 x2 x3 σ => J_X8_lost_b6   k x1 x2 x3 σ) (fun x1 x2 x3 σ => ih x1 x2 x3 σ) x2 x3 (0 : Int32) x1 σ
    refine ag_iconst (q := 26) (v := 1) dX8_lost_25 rfl (by decide) ?_
    refine ag_aload_0 (q := 27) dX8_lost_26 rfl ?_
    refine ag_getR (q := 30) dX8_lost_27 rfl fl8_16 (by decide) (congrArg Prod.fst s_141) rfl r_141_5 ?_
    refine ag_iload_3 (q := 31) dX8_lost_30 rfl ?_
    refine ag_iald (q := 32) dX8_lost_31 rfl (by decide) s_144 ?_
    refine ag_ishl (q := 33) dX8_lost_32 rfl ?_
    refine ag_goto (q := 37) dX8_lost_33 rfl ?_
    refine ag_kill_1 ?_
    exact A_X8_lost_b37 K  (fun x1 x2 x3 σ => J_X8_lost_b6   k x1 x2 x3 σ) (fun x1 x2 x3 σ => ih x1 x2 x3 σ) x2 x3 ((1 : Int32) <<< ((σ 144 x3.toNatClampNeg) &&& 31)) x1 σ
def J_X8_lost  (σ : Sg) : Option Int32 :=
  (J_X8_lost_b6   FU (0 : Int32) (0 : Int32) (0 : Int32) σ)
set_option maxHeartbeats 4000000 in
theorem A_X8_lost (K : KT)  (σ : Sg) : AG K mX8_lost (fun a : Int32 => (some (.int a), NT, R0, σ)) (J_X8_lost  σ) 0 [some (.ref 141), none, none, none] [] σ := by
  unfold J_X8_lost
  refine ag_iconst (q := 1) (v := 0) dX8_lost_0 rfl (by decide) ?_
  refine ag_istore_1 (q := 2) dX8_lost_1 rfl (Nat.le_of_ble_eq_true rfl) rfl ?_
  refine ag_iconst (q := 3) (v := 0) dX8_lost_2 rfl (by decide) ?_
  refine ag_istore_2 (q := 4) dX8_lost_3 rfl (Nat.le_of_ble_eq_true rfl) rfl ?_
  refine ag_iconst (q := 5) (v := 0) dX8_lost_4 rfl (by decide) ?_
  refine ag_istore_3 (q := 6) dX8_lost_5 rfl (Nat.le_of_ble_eq_true rfl) rfl ?_
  exact A_X8_lost_b6 K   FU (0 : Int32) (0 : Int32) (0 : Int32) σ
theorem C_X8_lost  (σ : Sg) : ∀ r, J_X8_lost  σ = some r → AMc yX8_lost mX8_lost [.ref 141] NT R0 σ (some (.int r), NT, R0, σ) := fun r e => AMc.of (L := [some (.ref 141), none, none, none]) (by decide) rfl (fun _ => rfl) (fun _ => Nat.le_of_ble_eq_true rfl) (Nat.le_refl _) (fun K => A_X8_lost K  σ _ e)
def J_X8_canDrive (a1 : Int32) (σ : Sg) : Option (Int32 × Sg) :=
  (if (σ 141 3) ≤ (a1 / (10 : Int32)) then (some ((0 : Int32), σ)) else (if (4 : Int32) ≤ (rmI a1 (10 : Int32)) then (some ((0 : Int32), σ)) else (if inb ((37 : Int32) + (a1 / (10 : Int32))) 54 = true then (if (σ 157 ((37 : Int32) + (a1 / (10 : Int32))).toNatClampNeg) = (36 : Int32) then (some ((0 : Int32), σ)) else (if inb (a1 / (10 : Int32)) 8 = true then (if (σ 144 (a1 / (10 : Int32)).toNatClampNeg) = (rmI (σ 157 0) (2 : Int32)) then (bd1 (J_X8_lost  σ) fun r53 => (if r53 = 0 then (bd2 (J_X8_comesTo (a1 / (10 : Int32)) (rmI a1 (10 : Int32)) (1 : Int32) σ) fun r66 s66 => (if r66 < 0 then (some ((0 : Int32), s66)) else (some ((1 : Int32), s66)))) else (some ((0 : Int32), σ)))) else (some ((0 : Int32), σ))) else none)) else none)))
set_option maxHeartbeats 4000000 in
theorem A_X8_canDrive (K : KT) (a1 : Int32) (σ : Sg) : AG K mX8_canDrive (fun a : Int32 × Sg => (some (.int a.1), NT, R0, a.2)) (J_X8_canDrive a1 σ) 0 [some (.ref 141), some (.int a1), none] [] σ := by
  unfold J_X8_canDrive
  refine ag_iload_1 (q := 1) dX8_canDrive_0 rfl ?_
  refine ag_bipush (q := 3) (v := 10) dX8_canDrive_1 rfl (by decide) ?_
  refine ag_idivK (q := 4) dX8_canDrive_3 rfl (by decide) ?_
  refine ag_istore_2 (q := 5) dX8_canDrive_4 rfl (Nat.le_of_ble_eq_true rfl) rfl ?_
  refine ag_iload_2 (q := 6) dX8_canDrive_5 rfl ?_
  refine ag_aload_0 (q := 7) dX8_canDrive_6 rfl ?_
  refine ag_getI (q := 10) dX8_canDrive_7 rfl fl8_112 (by decide) (congrArg Prod.fst s_141) rfl ?_
  refine ag_icmp_ge (tgt := 76) (q := 13) dX8_canDrive_10 rfl rfl ?_ ?_
  · refine ag_iconst (q := 77) (v := 0) dX8_canDrive_76 rfl (by decide) ?_
    exact ag_zretK dX8_canDrive_77 rfl (by decide) rfl
  refine ag_iload_1 (q := 14) dX8_canDrive_13 rfl ?_
  refine ag_bipush (q := 16) (v := 10) dX8_canDrive_14 rfl (by decide) ?_
  refine ag_iremK (q := 17) dX8_canDrive_16 rfl (by decide) ?_
  refine ag_iconst (q := 18) (v := 4) dX8_canDrive_17 rfl (by decide) ?_
  refine ag_icmp_ge (tgt := 76) (q := 21) dX8_canDrive_18 rfl rfl ?_ ?_
  · refine ag_iconst (q := 77) (v := 0) dX8_canDrive_76 rfl (by decide) ?_
    exact ag_zretK dX8_canDrive_77 rfl (by decide) rfl
  refine ag_aload_0 (q := 22) dX8_canDrive_21 rfl ?_
  refine ag_getR (q := 25) dX8_canDrive_22 rfl fl8_55 (by decide) (congrArg Prod.fst s_141) rfl r_141_31 ?_
  refine ag_bipush (q := 27) (v := 37) dX8_canDrive_25 rfl (by decide) ?_
  refine ag_iload_2 (q := 28) dX8_canDrive_27 rfl ?_
  refine ag_iadd (q := 29) dX8_canDrive_28 rfl ?_
  refine ag_iald (q := 30) dX8_canDrive_29 rfl (by decide) s_157 ?_
  refine ag_bipush (q := 32) (v := 36) dX8_canDrive_30 rfl (by decide) ?_
  refine ag_icmp_eq (tgt := 76) (q := 35) dX8_canDrive_32 rfl rfl ?_ ?_
  · refine ag_iconst (q := 77) (v := 0) dX8_canDrive_76 rfl (by decide) ?_
    exact ag_zretK dX8_canDrive_77 rfl (by decide) rfl
  refine ag_aload_0 (q := 36) dX8_canDrive_35 rfl ?_
  refine ag_getR (q := 39) dX8_canDrive_36 rfl fl8_16 (by decide) (congrArg Prod.fst s_141) rfl r_141_5 ?_
  refine ag_iload_2 (q := 40) dX8_canDrive_39 rfl ?_
  refine ag_iald (q := 41) dX8_canDrive_40 rfl (by decide) s_144 ?_
  refine ag_aload_0 (q := 42) dX8_canDrive_41 rfl ?_
  refine ag_getR (q := 45) dX8_canDrive_42 rfl fl8_55 (by decide) (congrArg Prod.fst s_141) rfl r_141_31 ?_
  refine ag_iconst (q := 46) (v := 0) dX8_canDrive_45 rfl (by decide) ?_
  refine ag_ialdK (q := 47) (k := 0) dX8_canDrive_46 rfl (by decide) s_157 (by decide) (by decide) ?_
  refine ag_iconst (q := 48) (v := 2) dX8_canDrive_47 rfl (by decide) ?_
  refine ag_iremK (q := 49) dX8_canDrive_48 rfl (by decide) ?_
  refine ag_icmp_ne (tgt := 76) (q := 52) dX8_canDrive_49 rfl rfl ?_ ?_
  · refine ag_iconst (q := 77) (v := 0) dX8_canDrive_76 rfl (by decide) ?_
    exact ag_zretK dX8_canDrive_77 rfl (by decide) rfl
  refine ag_aload_0 (q := 53) dX8_canDrive_52 rfl ?_
  refine ag_callV_pI (q := 56) (av := []) (rest := []) dX8_canDrive_53 rfl lk8_222 (C_X8_lost  _) (by decide) (Nat.le_of_ble_eq_true rfl) (by decide) (congrArg Prod.fst s_141) (by decide) (fun _ => rfl) (Nat.le_of_ble_eq_true rfl) rfl (fun r53 e53 => ?_)
  refine ag_if_ne (tgt := 76) (q := 59) dX8_canDrive_56 rfl rfl ?_ ?_
  · refine ag_iconst (q := 77) (v := 0) dX8_canDrive_76 rfl (by decide) ?_
    exact ag_zretK dX8_canDrive_77 rfl (by decide) rfl
  refine ag_aload_0 (q := 60) dX8_canDrive_59 rfl ?_
  refine ag_iload_2 (q := 61) dX8_canDrive_60 rfl ?_
  refine ag_iload_1 (q := 62) dX8_canDrive_61 rfl ?_
  refine ag_bipush (q := 64) (v := 10) dX8_canDrive_62 rfl (by decide) ?_
  refine ag_iremK (q := 65) dX8_canDrive_64 rfl (by decide) ?_
  refine ag_iconst (q := 66) (v := 1) dX8_canDrive_65 rfl (by decide) ?_
  refine ag_callV_mI (q := 69) (av := [.int _, .int _, .int _]) (rest := []) dX8_canDrive_66 rfl lk8_208 (C_X8_comesTo (a1 / (10 : Int32)) (rmI a1 (10 : Int32)) (1 : Int32) _) (by decide) (Nat.le_of_ble_eq_true rfl) (by decide) (congrArg Prod.fst s_141) (by decide) (fun _ => rfl) (Nat.le_of_ble_eq_true rfl) rfl (fun r66 s66 e66 => ?_)
  refine ag_if_lt (tgt := 76) (q := 72) dX8_canDrive_69 rfl rfl ?_ ?_
  · refine ag_iconst (q := 77) (v := 0) dX8_canDrive_76 rfl (by decide) ?_
    exact ag_zretK dX8_canDrive_77 rfl (by decide) rfl
  refine ag_iconst (q := 73) (v := 1) dX8_canDrive_72 rfl (by decide) ?_
  refine ag_goto (q := 77) dX8_canDrive_73 rfl ?_
  exact ag_zretK dX8_canDrive_77 rfl (by decide) rfl
theorem C_X8_canDrive (a1 : Int32) (σ : Sg) : ∀ r s', J_X8_canDrive a1 σ = some (r, s') → AMc yX8_canDrive mX8_canDrive [.ref 141, .int a1] NT R0 σ (some (.int r), NT, R0, s') := fun r s' e => AMc.of (L := [some (.ref 141), some (.int a1), none]) (by decide) rfl (fun _ => rfl) (fun _ => Nat.le_of_ble_eq_true rfl) (Nat.le_refl _) (fun K => A_X8_canDrive K a1 σ _ e)
def J_X8_worth_b46  (y4 : Int32 → Int32 → Sg → Option Int32) (x1 : Int32) (x2 : Int32) (w0 : Int32) (σ : Sg) : Option Int32 :=
  (if inb ((37 : Int32) + x2) 54 = true then (if (σ 157 ((37 : Int32) + x2).toNatClampNeg) = (36 : Int32) then (y4 (x1 + (0 : Int32)) (x2 + (1)) σ) else (if inb x2 8 = true then (if (σ 144 x2.toNatClampNeg) = 0 then (y4 (x1 + w0) (x2 + (1)) σ) else (y4 (x1 + (-w0)) (x2 + (1)) σ)) else none)) else none)
set_option maxHeartbeats 4000000 in
theorem A_X8_worth_b46 (K : KT)  (y4 : Int32 → Int32 → Sg → Option Int32) (hy4 : ∀ (x1 : Int32) (x2 : Int32) (σ : Sg), AG K mX8_worth (fun a : Int32 => (some (.int a), NT, R0, σ)) (y4 x1 x2 σ) 4 [some (.ref 141), some (.int x1), some (.int x2), none, none] [] σ) (x1 : Int32) (x2 : Int32) (w0 : Int32) (σ : Sg) : AG K mX8_worth (fun a : Int32 => (some (.int a), NT, R0, σ)) (J_X8_worth_b46  y4 x1 x2 w0 σ) 46 [some (.ref 141), some (.int x1), some (.int x2), none, none] [.int w0] σ := by
  unfold J_X8_worth_b46
  refine ag_istore_4 (q := 48) dX8_worth_46 rfl (Nat.le_of_ble_eq_true rfl) rfl ?_
  refine ag_iload_1 (q := 49) dX8_worth_48 rfl ?_
  refine ag_aload_0 (q := 50) dX8_worth_49 rfl ?_
  refine ag_getR (q := 53) dX8_worth_50 rfl fl8_55 (by decide) (congrArg Prod.fst s_141) rfl r_141_31 ?_
  refine ag_bipush (q := 55) (v := 37) dX8_worth_53 rfl (by decide) ?_
  refine ag_iload_2 (q := 56) dX8_worth_55 rfl ?_
  refine ag_iadd (q := 57) dX8_worth_56 rfl ?_
  refine ag_iald (q := 58) dX8_worth_57 rfl (by decide) s_157 ?_
  refine ag_bipush (q := 60) (v := 36) dX8_worth_58 rfl (by decide) ?_
  refine ag_icmp_ne (tgt := 67) (q := 63) dX8_worth_60 rfl rfl ?_ ?_
  · refine ag_aload_0 (q := 68) dX8_worth_67 rfl ?_
    refine ag_getR (q := 71) dX8_worth_68 rfl fl8_16 (by decide) (congrArg Prod.fst s_141) rfl r_141_5 ?_
    refine ag_iload_2 (q := 72) dX8_worth_71 rfl ?_
    refine ag_iald (q := 73) dX8_worth_72 rfl (by decide) s_144 ?_
    refine ag_if_ne (tgt := 81) (q := 76) dX8_worth_73 rfl rfl ?_ ?_
    · refine ag_iload_4 (q := 83) dX8_worth_81 rfl ?_
      refine ag_ineg (q := 84) dX8_worth_83 rfl ?_
      refine ag_iadd (q := 85) dX8_worth_84 rfl ?_
      refine ag_istore_1 (q := 86) dX8_worth_85 rfl (Nat.le_of_ble_eq_true rfl) rfl ?_
      refine ag_iinc_2 (q := 89) (d := (1)) dX8_worth_86 rfl (Nat.le_of_ble_eq_true rfl) rfl (by decide) ?_
      refine ag_goto (q := 4) dX8_worth_89 rfl ?_
      refine ag_kill_4 ?_
      exact hy4 (x1 + (-w0)) (x2 + (1)) σ
    refine ag_iload_4 (q := 78) dX8_worth_76 rfl ?_
    refine ag_goto (q := 84) dX8_worth_78 rfl ?_
    refine ag_iadd (q := 85) dX8_worth_84 rfl ?_
    refine ag_istore_1 (q := 86) dX8_worth_85 rfl (Nat.le_of_ble_eq_true rfl) rfl ?_
    refine ag_iinc_2 (q := 89) (d := (1)) dX8_worth_86 rfl (Nat.le_of_ble_eq_true rfl) rfl (by decide) ?_
    refine ag_goto (q := 4) dX8_worth_89 rfl ?_
    refine ag_kill_4 ?_
    exact hy4 (x1 + w0) (x2 + (1)) σ
  refine ag_iconst (q := 64) (v := 0) dX8_worth_63 rfl (by decide) ?_
  refine ag_goto (q := 84) dX8_worth_64 rfl ?_
  refine ag_iadd (q := 85) dX8_worth_84 rfl ?_
  refine ag_istore_1 (q := 86) dX8_worth_85 rfl (Nat.le_of_ble_eq_true rfl) rfl ?_
  refine ag_iinc_2 (q := 89) (d := (1)) dX8_worth_86 rfl (Nat.le_of_ble_eq_true rfl) rfl (by decide) ?_
  refine ag_goto (q := 4) dX8_worth_89 rfl ?_
  refine ag_kill_4 ?_
  exact hy4 (x1 + (0 : Int32)) (x2 + (1)) σ
def J_X8_worth_b4  : Nat → Int32 → Int32 → Sg → Option Int32
  | 0, _, _, _ => none
  | k + 1, x1, x2, σ =>
    (if (σ 141 3) ≤ x2 then (some x1) else (bd1 (J_X8_kindOf x2 σ) fun r14 => (if r14 = 0 then (J_X8_worth_b46  (fun x1 x2 σ => J_X8_worth_b4   k x1 x2 σ) x1 x2 (5 : Int32) σ) else (if r14 = (1 : Int32) then (J_X8_worth_b46  (fun x1 x2 σ => J_X8_worth_b4   k x1 x2 σ) x1 x2 (3 : Int32) σ) else (if r14 = (2 : Int32) then (J_X8_worth_b46  (fun x1 x2 σ => J_X8_worth_b4   k x1 x2 σ) x1 x2 (1 : Int32) σ) else (J_X8_worth_b46  (fun x1 x2 σ => J_X8_worth_b4   k x1 x2 σ) x1 x2 (20 : Int32) σ))))))
set_option maxHeartbeats 4000000 in
theorem A_X8_worth_b4 (K : KT)  : ∀ (k : Nat) (x1 : Int32) (x2 : Int32) (σ : Sg), AG K mX8_worth (fun a : Int32 => (some (.int a), NT, R0, σ)) (J_X8_worth_b4   k x1 x2 σ) 4 [some (.ref 141), some (.int x1), some (.int x2), none, none] [] σ := by
  intro k
  induction k with
  | zero => intro x1 x2 σ; exact ag_none
  | succ k ih =>
    intro x1 x2 σ
    rw [J_X8_worth_b4]
    refine ag_iload_2 (q := 5) dX8_worth_4 rfl ?_
    refine ag_aload_0 (q := 6) dX8_worth_5 rfl ?_
    refine ag_getI (q := 9) dX8_worth_6 rfl fl8_112 (by decide) (congrArg Prod.fst s_141) rfl ?_
    refine ag_icmp_ge (tgt := 92) (q := 12) dX8_worth_9 rfl rfl ?_ ?_
    · refine ag_iload_1 (q := 93) dX8_worth_92 rfl ?_
      exact ag_iret dX8_worth_93 rfl rfl
    refine ag_aload_0 (q := 13) dX8_worth_12 rfl ?_
    refine ag_iload_2 (q := 14) dX8_worth_13 rfl ?_
    refine ag_callV_pI (q := 17) (av := [.int _]) (rest := []) dX8_worth_14 rfl lk8_192 (C_X8_kindOf x2 _) (by decide) (Nat.le_of_ble_eq_true rfl) (by decide) (congrArg Prod.fst s_141) (by decide) (fun _ => rfl) (Nat.le_of_ble_eq_true rfl) rfl (fun r14 e14 => ?_)
    refine ag_istore_3 (q := 18) dX8_worth_17 rfl (Nat.le_of_ble_eq_true rfl) rfl ?_
    refine ag_iload_3 (q := 19) dX8_worth_18 rfl ?_
    refine ag_if_ne (tgt := 26) (q := 22) dX8_worth_19 rfl rfl ?_ ?_
    · refine ag_iload_3 (q := 27) dX8_worth_26 rfl ?_
      refine ag_iconst (q := 28) (v := 1) dX8_worth_27 rfl (by decide) ?_
      refine ag_icmp_ne (tgt := 35) (q := 31) dX8_worth_28 rfl rfl ?_ ?_
      · refine ag_iload_3 (q := 36) dX8_worth_35 rfl ?_
        refine ag_iconst (q := 37) (v := 2) dX8_worth_36 rfl (by decide) ?_
        refine ag_icmp_ne (tgt := 44) (q := 40) dX8_worth_37 rfl rfl ?_ ?_
        · refine ag_bipush (q := 46) (v := 20) dX8_worth_44 rfl (by decide) ?_
          refine ag_kill_3 ?_
          exact A_X8_worth_b46 K  (fun x1 x2 σ => J_X8_worth_b4   k x1 x2 σ) (fun x1 x2 σ => ih x1 x2 σ) x1 x2 (20 : Int32) σ
        refine ag_iconst (q := 41) (v := 1) dX8_worth_40 rfl (by decide) ?_
        refine ag_goto (q := 46) dX8_worth_41 rfl ?_
        refine ag_kill_3 ?_
        exact A_X8_worth_b46 K  (fun x1 x2 σ => J_X8_worth_b4   k x1 x2 σ) (fun x1 x2 σ => ih x1 x2 σ) x1 x2 (1 : Int32) σ
      refine ag_iconst (q := 32) (v := 3) dX8_worth_31 rfl (by decide) ?_
      refine ag_goto (q := 46) dX8_worth_32 rfl ?_
      refine ag_kill_3 ?_
      exact A_X8_worth_b46 K  (fun x1 x2 σ => J_X8_worth_b4   k x1 x2 σ) (fun x1 x2 σ => ih x1 x2 σ) x1 x2 (3 : Int32) σ
    refine ag_iconst (q := 23) (v := 5) dX8_worth_22 rfl (by decide) ?_
    refine ag_goto (q := 46) dX8_worth_23 rfl ?_
    refine ag_kill_3 ?_
    exact A_X8_worth_b46 K  (fun x1 x2 σ => J_X8_worth_b4   k x1 x2 σ) (fun x1 x2 σ => ih x1 x2 σ) x1 x2 (5 : Int32) σ
def J_X8_worth  (σ : Sg) : Option Int32 :=
  (J_X8_worth_b4   FU (0 : Int32) (0 : Int32) σ)
set_option maxHeartbeats 4000000 in
theorem A_X8_worth (K : KT)  (σ : Sg) : AG K mX8_worth (fun a : Int32 => (some (.int a), NT, R0, σ)) (J_X8_worth  σ) 0 [some (.ref 141), none, none, none, none] [] σ := by
  unfold J_X8_worth
  refine ag_iconst (q := 1) (v := 0) dX8_worth_0 rfl (by decide) ?_
  refine ag_istore_1 (q := 2) dX8_worth_1 rfl (Nat.le_of_ble_eq_true rfl) rfl ?_
  refine ag_iconst (q := 3) (v := 0) dX8_worth_2 rfl (by decide) ?_
  refine ag_istore_2 (q := 4) dX8_worth_3 rfl (Nat.le_of_ble_eq_true rfl) rfl ?_
  exact A_X8_worth_b4 K   FU (0 : Int32) (0 : Int32) σ
theorem C_X8_worth  (σ : Sg) : ∀ r, J_X8_worth  σ = some r → AMc yX8_worth mX8_worth [.ref 141] NT R0 σ (some (.int r), NT, R0, σ) := fun r e => AMc.of (L := [some (.ref 141), none, none, none, none]) (by decide) rfl (fun _ => rfl) (fun _ => Nat.le_of_ble_eq_true rfl) (Nat.le_refl _) (fun K => A_X8_worth K  σ _ e)
def J_X8_onMeadow_b4  : Nat → Int32 → Int32 → Int32 → Sg → Option Int32
  | 0, _, _, _, _ => none
  | k + 1, x1, x2, x3, σ =>
    (if (σ 141 3) ≤ x3 then (some x2) else (if inb ((37 : Int32) + x3) 54 = true then (if (σ 157 ((37 : Int32) + x3).toNatClampNeg) = (36 : Int32) then (J_X8_onMeadow_b4   k x1 (x2 + (0 : Int32)) (x3 + (1)) σ) else (if inb x3 8 = true then (if (σ 144 x3.toNatClampNeg) = x1 then (J_X8_onMeadow_b4   k x1 (x2 + (1 : Int32)) (x3 + (1)) σ) else (J_X8_onMeadow_b4   k x1 (x2 + (0 : Int32)) (x3 + (1)) σ)) else none)) else none))
set_option maxHeartbeats 4000000 in
theorem A_X8_onMeadow_b4 (K : KT)  : ∀ (k : Nat) (x1 : Int32) (x2 : Int32) (x3 : Int32) (σ : Sg), AG K mX8_onMeadow (fun a : Int32 => (some (.int a), NT, R0, σ)) (J_X8_onMeadow_b4   k x1 x2 x3 σ) 4 [some (.ref 141), some (.int x1), some (.int x2), some (.int x3)] [] σ := by
  intro k
  induction k with
  | zero => intro x1 x2 x3 σ; exact ag_none
  | succ k ih =>
    intro x1 x2 x3 σ
    rw [J_X8_onMeadow_b4]
    refine ag_iload_3 (q := 5) dX8_onMeadow_4 rfl ?_
    refine ag_aload_0 (q := 6) dX8_onMeadow_5 rfl ?_
    refine ag_getI (q := 9) dX8_onMeadow_6 rfl fl8_112 (by decide) (congrArg Prod.fst s_141) rfl ?_
    refine ag_icmp_ge (tgt := 50) (q := 12) dX8_onMeadow_9 rfl rfl ?_ ?_
    · refine ag_iload_2 (q := 51) dX8_onMeadow_50 rfl ?_
      exact ag_iret dX8_onMeadow_51 rfl rfl
    refine ag_iload_2 (q := 13) dX8_onMeadow_12 rfl ?_
    refine ag_aload_0 (q := 14) dX8_onMeadow_13 rfl ?_
    refine ag_getR (q := 17) dX8_onMeadow_14 rfl fl8_55 (by decide) (congrArg Prod.fst s_141) rfl r_141_31 ?_
    refine ag_bipush (q := 19) (v := 37) dX8_onMeadow_17 rfl (by decide) ?_
    refine ag_iload_3 (q := 20) dX8_onMeadow_19 rfl ?_
    refine ag_iadd (q := 21) dX8_onMeadow_20 rfl ?_
    refine ag_iald (q := 22) dX8_onMeadow_21 rfl (by decide) s_157 ?_
    refine ag_bipush (q := 24) (v := 36) dX8_onMeadow_22 rfl (by decide) ?_
    refine ag_icmp_eq (tgt := 41) (q := 27) dX8_onMeadow_24 rfl rfl ?_ ?_
    · refine ag_iconst (q := 42) (v := 0) dX8_onMeadow_41 rfl (by decide) ?_
      refine ag_iadd (q := 43) dX8_onMeadow_42 rfl ?_
      refine ag_istore_2 (q := 44) dX8_onMeadow_43 rfl (Nat.le_of_ble_eq_true rfl) rfl ?_
      refine ag_iinc_3 (q := 47) (d := (1)) dX8_onMeadow_44 rfl (Nat.le_of_ble_eq_true rfl) rfl (by decide) ?_
      refine ag_goto (q := 4) dX8_onMeadow_47 rfl ?_
      exact ih x1 (x2 + (0 : Int32)) (x3 + (1)) σ
    refine ag_aload_0 (q := 28) dX8_onMeadow_27 rfl ?_
    refine ag_getR (q := 31) dX8_onMeadow_28 rfl fl8_16 (by decide) (congrArg Prod.fst s_141) rfl r_141_5 ?_
    refine ag_iload_3 (q := 32) dX8_onMeadow_31 rfl ?_
    refine ag_iald (q := 33) dX8_onMeadow_32 rfl (by decide) s_144 ?_
    refine ag_iload_1 (q := 34) dX8_onMeadow_33 rfl ?_
    refine ag_icmp_ne (tgt := 41) (q := 37) dX8_onMeadow_34 rfl rfl ?_ ?_
    · refine ag_iconst (q := 42) (v := 0) dX8_onMeadow_41 rfl (by decide) ?_
      refine ag_iadd (q := 43) dX8_onMeadow_42 rfl ?_
      refine ag_istore_2 (q := 44) dX8_onMeadow_43 rfl (Nat.le_of_ble_eq_true rfl) rfl ?_
      refine ag_iinc_3 (q := 47) (d := (1)) dX8_onMeadow_44 rfl (Nat.le_of_ble_eq_true rfl) rfl (by decide) ?_
      refine ag_goto (q := 4) dX8_onMeadow_47 rfl ?_
      exact ih x1 (x2 + (0 : Int32)) (x3 + (1)) σ
    refine ag_iconst (q := 38) (v := 1) dX8_onMeadow_37 rfl (by decide) ?_
    refine ag_goto (q := 42) dX8_onMeadow_38 rfl ?_
    refine ag_iadd (q := 43) dX8_onMeadow_42 rfl ?_
    refine ag_istore_2 (q := 44) dX8_onMeadow_43 rfl (Nat.le_of_ble_eq_true rfl) rfl ?_
    refine ag_iinc_3 (q := 47) (d := (1)) dX8_onMeadow_44 rfl (Nat.le_of_ble_eq_true rfl) rfl (by decide) ?_
    refine ag_goto (q := 4) dX8_onMeadow_47 rfl ?_
    exact ih x1 (x2 + (1 : Int32)) (x3 + (1)) σ
def J_X8_onMeadow (a1 : Int32) (σ : Sg) : Option Int32 :=
  (J_X8_onMeadow_b4   FU a1 (0 : Int32) (0 : Int32) σ)
set_option maxHeartbeats 4000000 in
theorem A_X8_onMeadow (K : KT) (a1 : Int32) (σ : Sg) : AG K mX8_onMeadow (fun a : Int32 => (some (.int a), NT, R0, σ)) (J_X8_onMeadow a1 σ) 0 [some (.ref 141), some (.int a1), none, none] [] σ := by
  unfold J_X8_onMeadow
  refine ag_iconst (q := 1) (v := 0) dX8_onMeadow_0 rfl (by decide) ?_
  refine ag_istore_2 (q := 2) dX8_onMeadow_1 rfl (Nat.le_of_ble_eq_true rfl) rfl ?_
  refine ag_iconst (q := 3) (v := 0) dX8_onMeadow_2 rfl (by decide) ?_
  refine ag_istore_3 (q := 4) dX8_onMeadow_3 rfl (Nat.le_of_ble_eq_true rfl) rfl ?_
  exact A_X8_onMeadow_b4 K   FU a1 (0 : Int32) (0 : Int32) σ
theorem C_X8_onMeadow (a1 : Int32) (σ : Sg) : ∀ r, J_X8_onMeadow a1 σ = some r → AMc yX8_onMeadow mX8_onMeadow [.ref 141, .int a1] NT R0 σ (some (.int r), NT, R0, σ) := fun r e => AMc.of (L := [some (.ref 141), some (.int a1), none, none]) (by decide) rfl (fun _ => rfl) (fun _ => Nat.le_of_ble_eq_true rfl) (Nat.le_refl _) (fun K => A_X8_onMeadow K a1 σ _ e)
def J_X8_orNone (a0 : Int32) (σ : Sg) : Option Int32 :=
  (if a0 = (36 : Int32) then (some (-4 : Int32)) else (some a0))
set_option maxHeartbeats 4000000 in
theorem A_X8_orNone (K : KT) (a0 : Int32) (σ : Sg) : AG K mX8_orNone (fun a : Int32 => (some (.int a), NT, R0, σ)) (J_X8_orNone a0 σ) 0 [some (.int a0)] [] σ := by
  unfold J_X8_orNone
  refine ag_iload_0 (q := 1) dX8_orNone_0 rfl ?_
  refine ag_bipush (q := 3) (v := 36) dX8_orNone_1 rfl (by decide) ?_
  refine ag_icmp_ne (tgt := 11) (q := 6) dX8_orNone_3 rfl rfl ?_ ?_
  · refine ag_iload_0 (q := 12) dX8_orNone_11 rfl ?_
    exact ag_iret dX8_orNone_12 rfl rfl
  refine ag_bipush (q := 8) (v := -4) dX8_orNone_6 rfl (by decide) ?_
  refine ag_goto (q := 12) dX8_orNone_8 rfl ?_
  exact ag_iret dX8_orNone_12 rfl rfl
theorem C_X8_orNone (a0 : Int32) (σ : Sg) : ∀ r, J_X8_orNone a0 σ = some r → AMc yX8_orNone mX8_orNone [.int a0] NT R0 σ (some (.int r), NT, R0, σ) := fun r e => AMc.of (L := [some (.int a0)]) (by decide) rfl (fun _ => rfl) (fun _ => Nat.le_of_ble_eq_true rfl) (Nat.le_refl _) (fun K => A_X8_orNone K a0 σ _ e)
def J_X8_square (a1 : Int32) (a2 : Int32) (σ : Sg) : Option (Int32 × Sg) :=
  (bd1 (J_X8_isSquare a1 σ) fun r2 => (if r2 = 0 then (some ((-1 : Int32), σ)) else (bd1 (J_X8_in a2 (0 : Int32) (1 : Int32) σ) fun r11 => (if r11 = 0 then (some ((-1 : Int32), σ)) else (bd2 (J_X8_asItIs  σ) fun r20 s20 => (if a2 = (1 : Int32) then (bd1 (J_X8_onIt a1 s20) fun r30 => (some (r30, s20))) else (if inb a1 36 = true then (if (s20 142 a1.toNatClampNeg) = (9 : Int32) then (some ((9 : Int32), s20)) else (if inb ((1 : Int32) + a1) 54 = true then (some ((s20 146 ((1 : Int32) + a1).toNatClampNeg), s20)) else none)) else none)))))))
set_option maxHeartbeats 4000000 in
theorem A_X8_square (K : KT) (a1 : Int32) (a2 : Int32) (σ : Sg) : AG K mX8_square (fun a : Int32 × Sg => (some (.int a.1), NT, R0, a.2)) (J_X8_square a1 a2 σ) 0 [some (.ref 141), some (.int a1), some (.int a2)] [] σ := by
  unfold J_X8_square
  refine ag_aload_0 (q := 1) dX8_square_0 rfl ?_
  refine ag_iload_1 (q := 2) dX8_square_1 rfl ?_
  refine ag_callV_pI (q := 5) (av := [.int _]) (rest := []) dX8_square_2 rfl lk8_225 (C_X8_isSquare a1 _) (by decide) (Nat.le_of_ble_eq_true rfl) (by decide) (congrArg Prod.fst s_141) (by decide) (fun _ => rfl) (Nat.le_of_ble_eq_true rfl) rfl (fun r2 e2 => ?_)
  refine ag_if_eq (tgt := 17) (q := 8) dX8_square_5 rfl rfl ?_ ?_
  · refine ag_iconst (q := 18) (v := -1) dX8_square_17 rfl (by decide) ?_
    exact ag_iret dX8_square_18 rfl rfl
  refine ag_iload_2 (q := 9) dX8_square_8 rfl ?_
  refine ag_iconst (q := 10) (v := 0) dX8_square_9 rfl (by decide) ?_
  refine ag_iconst (q := 11) (v := 1) dX8_square_10 rfl (by decide) ?_
  refine ag_callS_pI (q := 14) (av := [.int _, .int _, .int _]) (rest := []) dX8_square_11 rfl lk8_115 (C_X8_in a2 (0 : Int32) (1 : Int32) _) (by decide) (Nat.le_of_ble_eq_true rfl) (fun _ => rfl) (Nat.le_of_ble_eq_true rfl) rfl (fun r11 e11 => ?_)
  refine ag_if_ne (tgt := 19) (q := 17) dX8_square_14 rfl rfl ?_ ?_
  · refine ag_aload_0 (q := 20) dX8_square_19 rfl ?_
    refine ag_callV_mU (q := 23) (av := []) (rest := []) dX8_square_20 rfl lk8_228 (C_X8_asItIs  _) (by decide) (Nat.le_of_ble_eq_true rfl) (by decide) (congrArg Prod.fst s_141) (by decide) (fun _ => rfl) (Nat.le_of_ble_eq_true rfl) rfl (fun r20 s20 e20 => ?_)
    refine ag_iload_2 (q := 24) dX8_square_23 rfl ?_
    refine ag_iconst (q := 25) (v := 1) dX8_square_24 rfl (by decide) ?_
    refine ag_icmp_ne (tgt := 36) (q := 28) dX8_square_25 rfl rfl ?_ ?_
    · refine ag_aload_0 (q := 37) dX8_square_36 rfl ?_
      refine ag_getR (q := 40) dX8_square_37 rfl fl8_7 (by decide) (congrArg Prod.fst s_141) rfl r_141_2 ?_
      refine ag_iload_1 (q := 41) dX8_square_40 rfl ?_
      refine ag_iald (q := 42) dX8_square_41 rfl (by decide) s_142 ?_
      refine ag_bipush (q := 44) (v := 9) dX8_square_42 rfl (by decide) ?_
      refine ag_icmp_ne (tgt := 52) (q := 47) dX8_square_44 rfl rfl ?_ ?_
      · refine ag_aload_0 (q := 53) dX8_square_52 rfl ?_
        refine ag_getR (q := 56) dX8_square_53 rfl fl8_22 (by decide) (congrArg Prod.fst s_141) rfl r_141_10 ?_
        refine ag_iconst (q := 57) (v := 1) dX8_square_56 rfl (by decide) ?_
        refine ag_iload_1 (q := 58) dX8_square_57 rfl ?_
        refine ag_iadd (q := 59) dX8_square_58 rfl ?_
        refine ag_iald (q := 60) dX8_square_59 rfl (by decide) s_146 ?_
        exact ag_iret dX8_square_60 rfl rfl
      refine ag_bipush (q := 49) (v := 9) dX8_square_47 rfl (by decide) ?_
      refine ag_goto (q := 60) dX8_square_49 rfl ?_
      exact ag_iret dX8_square_60 rfl rfl
    refine ag_aload_0 (q := 29) dX8_square_28 rfl ?_
    refine ag_iload_1 (q := 30) dX8_square_29 rfl ?_
    refine ag_callV_pI (q := 33) (av := [.int _]) (rest := []) dX8_square_30 rfl lk8_189 (C_X8_onIt a1 _) (by decide) (Nat.le_of_ble_eq_true rfl) (by decide) (congrArg Prod.fst s_141) (by decide) (fun _ => rfl) (Nat.le_of_ble_eq_true rfl) rfl (fun r30 e30 => ?_)
    refine ag_goto (q := 60) dX8_square_33 rfl ?_
    exact ag_iret dX8_square_60 rfl rfl
  refine ag_iconst (q := 18) (v := -1) dX8_square_17 rfl (by decide) ?_
  exact ag_iret dX8_square_18 rfl rfl
theorem C_X8_square (a1 : Int32) (a2 : Int32) (σ : Sg) : ∀ r s', J_X8_square a1 a2 σ = some (r, s') → AMc yX8_square mX8_square [.ref 141, .int a1, .int a2] NT R0 σ (some (.int r), NT, R0, s') := fun r s' e => AMc.of (L := [some (.ref 141), some (.int a1), some (.int a2)]) (by decide) rfl (fun _ => rfl) (fun _ => Nat.le_of_ble_eq_true rfl) (Nat.le_refl _) (fun K => A_X8_square K a1 a2 σ _ e)
def J_X8_beast (a1 : Int32) (a2 : Int32) (σ : Sg) : Option (Int32 × Sg) :=
  (bd1 (J_X8_isBeast a1 σ) fun r2 => (if r2 = 0 then (some ((-1 : Int32), σ)) else (bd2 (J_X8_asItIs  σ) fun r11 s11 => (if a2 = 0 then (bd1 (J_X8_kindOf a1 s11) fun r46 => (some (r46, s11))) else (if a2 = 1 then (if inb a1 8 = true then (some ((s11 144 a1.toNatClampNeg), s11)) else none) else (if a2 = 2 then (if inb ((37 : Int32) + a1) 54 = true then (bd1 (J_X8_orNone (s11 146 ((37 : Int32) + a1).toNatClampNeg) s11) fun r66 => (some (r66, s11))) else none) else (if a2 = 3 then (if inb ((45 : Int32) + a1) 54 = true then (some ((s11 146 ((45 : Int32) + a1).toNatClampNeg), s11)) else none) else (some ((-1 : Int32), s11)))))))))
set_option maxHeartbeats 4000000 in
theorem A_X8_beast (K : KT) (a1 : Int32) (a2 : Int32) (σ : Sg) : AG K mX8_beast (fun a : Int32 × Sg => (some (.int a.1), NT, R0, a.2)) (J_X8_beast a1 a2 σ) 0 [some (.ref 141), some (.int a1), some (.int a2)] [] σ := by
  unfold J_X8_beast
  refine ag_aload_0 (q := 1) dX8_beast_0 rfl ?_
  refine ag_iload_1 (q := 2) dX8_beast_1 rfl ?_
  refine ag_callV_pI (q := 5) (av := [.int _]) (rest := []) dX8_beast_2 rfl lk8_231 (C_X8_isBeast a1 _) (by decide) (Nat.le_of_ble_eq_true rfl) (by decide) (congrArg Prod.fst s_141) (by decide) (fun _ => rfl) (Nat.le_of_ble_eq_true rfl) rfl (fun r2 e2 => ?_)
  refine ag_if_ne (tgt := 10) (q := 8) dX8_beast_5 rfl rfl ?_ ?_
  · refine ag_aload_0 (q := 11) dX8_beast_10 rfl ?_
    refine ag_callV_mU (q := 14) (av := []) (rest := []) dX8_beast_11 rfl lk8_228 (C_X8_asItIs  _) (by decide) (Nat.le_of_ble_eq_true rfl) (by decide) (congrArg Prod.fst s_141) (by decide) (fun _ => rfl) (Nat.le_of_ble_eq_true rfl) rfl (fun r11 s11 e11 => ?_)
    refine ag_iload_2 (q := 15) dX8_beast_14 rfl ?_
    refine ag_ite (fun z0 => ?_) (fun z0 => ?_)
    · refine ag_tin (k := 0) (q := 44) dX8_beast_15 z0 (by decide) (by decide) rfl rfl ?_
      refine ag_aload_0 (q := 45) dX8_beast_44 rfl ?_
      refine ag_iload_1 (q := 46) dX8_beast_45 rfl ?_
      refine ag_callV_pI (q := 49) (av := [.int _]) (rest := []) dX8_beast_46 rfl lk8_192 (C_X8_kindOf a1 _) (by decide) (Nat.le_of_ble_eq_true rfl) (by decide) (congrArg Prod.fst s_141) (by decide) (fun _ => rfl) (Nat.le_of_ble_eq_true rfl) rfl (fun r46 e46 => ?_)
      exact ag_iret dX8_beast_49 rfl rfl
    refine ag_ite (fun z1 => ?_) (fun z1 => ?_)
    · refine ag_tin (k := 1) (q := 50) dX8_beast_15 z1 (by decide) (by decide) rfl rfl ?_
      refine ag_aload_0 (q := 51) dX8_beast_50 rfl ?_
      refine ag_getR (q := 54) dX8_beast_51 rfl fl8_16 (by decide) (congrArg Prod.fst s_141) rfl r_141_5 ?_
      refine ag_iload_1 (q := 55) dX8_beast_54 rfl ?_
      refine ag_iald (q := 56) dX8_beast_55 rfl (by decide) s_144 ?_
      exact ag_iret dX8_beast_56 rfl rfl
    refine ag_ite (fun z2 => ?_) (fun z2 => ?_)
    · refine ag_tin (k := 2) (q := 57) dX8_beast_15 z2 (by decide) (by decide) rfl rfl ?_
      refine ag_aload_0 (q := 58) dX8_beast_57 rfl ?_
      refine ag_getR (q := 61) dX8_beast_58 rfl fl8_22 (by decide) (congrArg Prod.fst s_141) rfl r_141_10 ?_
      refine ag_bipush (q := 63) (v := 37) dX8_beast_61 rfl (by decide) ?_
      refine ag_iload_1 (q := 64) dX8_beast_63 rfl ?_
      refine ag_iadd (q := 65) dX8_beast_64 rfl ?_
      refine ag_iald (q := 66) dX8_beast_65 rfl (by decide) s_146 ?_
      refine ag_callS_pI (q := 69) (av := [.int _]) (rest := []) dX8_beast_66 rfl lk8_234 (C_X8_orNone (s11 146 ((37 : Int32) + a1).toNatClampNeg) _) (by decide) (Nat.le_of_ble_eq_true rfl) (fun _ => rfl) (Nat.le_of_ble_eq_true rfl) rfl (fun r66 e66 => ?_)
      exact ag_iret dX8_beast_69 rfl rfl
    refine ag_ite (fun z3 => ?_) (fun z3 => ?_)
    · refine ag_tin (k := 3) (q := 70) dX8_beast_15 z3 (by decide) (by decide) rfl rfl ?_
      refine ag_aload_0 (q := 71) dX8_beast_70 rfl ?_
      refine ag_getR (q := 74) dX8_beast_71 rfl fl8_22 (by decide) (congrArg Prod.fst s_141) rfl r_141_10 ?_
      refine ag_bipush (q := 76) (v := 45) dX8_beast_74 rfl (by decide) ?_
      refine ag_iload_1 (q := 77) dX8_beast_76 rfl ?_
      refine ag_iadd (q := 78) dX8_beast_77 rfl ?_
      refine ag_iald (q := 79) dX8_beast_78 rfl (by decide) s_146 ?_
      exact ag_iret dX8_beast_79 rfl rfl
    refine ag_tout (q := 80) dX8_beast_15 (by have q0 := lv_neT z0 (by decide : (0 : Int32).toInt = 0); have q1 := lv_neT z1 (by decide : (1 : Int32).toInt = 1); have q2 := lv_neT z2 (by decide : (2 : Int32).toInt = 2); have q3 := lv_neT z3 (by decide : (3 : Int32).toInt = 3); omega) rfl ?_
    refine ag_iconst (q := 81) (v := -1) dX8_beast_80 rfl (by decide) ?_
    exact ag_iret dX8_beast_81 rfl rfl
  refine ag_iconst (q := 9) (v := -1) dX8_beast_8 rfl (by decide) ?_
  exact ag_iret dX8_beast_9 rfl rfl
theorem C_X8_beast (a1 : Int32) (a2 : Int32) (σ : Sg) : ∀ r s', J_X8_beast a1 a2 σ = some (r, s') → AMc yX8_beast mX8_beast [.ref 141, .int a1, .int a2] NT R0 σ (some (.int r), NT, R0, s') := fun r s' e => AMc.of (L := [some (.ref 141), some (.int a1), some (.int a2)]) (by decide) rfl (fun _ => rfl) (fun _ => Nat.le_of_ble_eq_true rfl) (Nat.le_refl _) (fun K => A_X8_beast K a1 a2 σ _ e)
def J_X8_looksAt (a1 : Int32) (a2 : Int32) (σ : Sg) : Option (Int32 × Sg) :=
  (bd1 (J_X8_isBeast a1 σ) fun r2 => (if r2 = 0 then (some ((-1 : Int32), σ)) else (bd1 (J_X8_in a2 (0 : Int32) (3 : Int32) σ) fun r11 => (if r11 = 0 then (some ((-1 : Int32), σ)) else (if inb ((37 : Int32) + a1) 54 = true then (if (σ 146 ((37 : Int32) + a1).toNatClampNeg) = (36 : Int32) then (some ((-2 : Int32), σ)) else (bd2 (J_X8_asItIs  σ) fun r37 s37 => (some ((0 : Int32), s37)))) else none)))))
set_option maxHeartbeats 4000000 in
theorem A_X8_looksAt (K : KT) (a1 : Int32) (a2 : Int32) (σ : Sg) : AG K mX8_looksAt (fun a : Int32 × Sg => (some (.int a.1), NT, R0, a.2)) (J_X8_looksAt a1 a2 σ) 0 [some (.ref 141), some (.int a1), some (.int a2)] [] σ := by
  unfold J_X8_looksAt
  refine ag_aload_0 (q := 1) dX8_looksAt_0 rfl ?_
  refine ag_iload_1 (q := 2) dX8_looksAt_1 rfl ?_
  refine ag_callV_pI (q := 5) (av := [.int _]) (rest := []) dX8_looksAt_2 rfl lk8_231 (C_X8_isBeast a1 _) (by decide) (Nat.le_of_ble_eq_true rfl) (by decide) (congrArg Prod.fst s_141) (by decide) (fun _ => rfl) (Nat.le_of_ble_eq_true rfl) rfl (fun r2 e2 => ?_)
  refine ag_if_eq (tgt := 17) (q := 8) dX8_looksAt_5 rfl rfl ?_ ?_
  · refine ag_iconst (q := 18) (v := -1) dX8_looksAt_17 rfl (by decide) ?_
    exact ag_iret dX8_looksAt_18 rfl rfl
  refine ag_iload_2 (q := 9) dX8_looksAt_8 rfl ?_
  refine ag_iconst (q := 10) (v := 0) dX8_looksAt_9 rfl (by decide) ?_
  refine ag_iconst (q := 11) (v := 3) dX8_looksAt_10 rfl (by decide) ?_
  refine ag_callS_pI (q := 14) (av := [.int _, .int _, .int _]) (rest := []) dX8_looksAt_11 rfl lk8_115 (C_X8_in a2 (0 : Int32) (3 : Int32) _) (by decide) (Nat.le_of_ble_eq_true rfl) (fun _ => rfl) (Nat.le_of_ble_eq_true rfl) rfl (fun r11 e11 => ?_)
  refine ag_if_ne (tgt := 19) (q := 17) dX8_looksAt_14 rfl rfl ?_ ?_
  · refine ag_aload_0 (q := 20) dX8_looksAt_19 rfl ?_
    refine ag_getR (q := 23) dX8_looksAt_20 rfl fl8_22 (by decide) (congrArg Prod.fst s_141) rfl r_141_10 ?_
    refine ag_bipush (q := 25) (v := 37) dX8_looksAt_23 rfl (by decide) ?_
    refine ag_iload_1 (q := 26) dX8_looksAt_25 rfl ?_
    refine ag_iadd (q := 27) dX8_looksAt_26 rfl ?_
    refine ag_iald (q := 28) dX8_looksAt_27 rfl (by decide) s_146 ?_
    refine ag_bipush (q := 30) (v := 36) dX8_looksAt_28 rfl (by decide) ?_
    refine ag_icmp_ne (tgt := 36) (q := 33) dX8_looksAt_30 rfl rfl ?_ ?_
    · refine ag_aload_0 (q := 37) dX8_looksAt_36 rfl ?_
      refine ag_callV_mU (q := 40) (av := []) (rest := []) dX8_looksAt_37 rfl lk8_228 (C_X8_asItIs  _) (by decide) (Nat.le_of_ble_eq_true rfl) (by decide) (congrArg Prod.fst s_141) (by decide) (fun _ => rfl) (Nat.le_of_ble_eq_true rfl) rfl (fun r37 s37 e37 => ?_)
      refine ag_iconst (q := 41) (v := 0) dX8_looksAt_40 rfl (by decide) ?_
      exact ag_iret dX8_looksAt_41 rfl rfl
    refine ag_bipush (q := 35) (v := -2) dX8_looksAt_33 rfl (by decide) ?_
    exact ag_iret dX8_looksAt_35 rfl rfl
  refine ag_iconst (q := 18) (v := -1) dX8_looksAt_17 rfl (by decide) ?_
  exact ag_iret dX8_looksAt_18 rfl rfl
theorem C_X8_looksAt (a1 : Int32) (a2 : Int32) (σ : Sg) : ∀ r s', J_X8_looksAt a1 a2 σ = some (r, s') → AMc yX8_looksAt mX8_looksAt [.ref 141, .int a1, .int a2] NT R0 σ (some (.int r), NT, R0, s') := fun r s' e => AMc.of (L := [some (.ref 141), some (.int a1), some (.int a2)]) (by decide) rfl (fun _ => rfl) (fun _ => Nat.le_of_ble_eq_true rfl) (Nat.le_refl _) (fun K => A_X8_looksAt K a1 a2 σ _ e)
def J_X8_goes (a1 : Int32) (a2 : Int32) (σ : Sg) : Option (Int32 × Sg) :=
  (bd2 (J_X8_looksAt a1 a2 σ) fun r3 s3 => (if 0 ≤ r3 then (bd2 (J_X8_comesTo a1 a2 (1 : Int32) s3) fun r19 s19 => (some (r19, s19))) else (some (r3, s3))))
set_option maxHeartbeats 4000000 in
theorem A_X8_goes (K : KT) (a1 : Int32) (a2 : Int32) (σ : Sg) : AG K mX8_goes (fun a : Int32 × Sg => (some (.int a.1), NT, R0, a.2)) (J_X8_goes a1 a2 σ) 0 [some (.ref 141), some (.int a1), some (.int a2), none] [] σ := by
  unfold J_X8_goes
  refine ag_aload_0 (q := 1) dX8_goes_0 rfl ?_
  refine ag_iload_1 (q := 2) dX8_goes_1 rfl ?_
  refine ag_iload_2 (q := 3) dX8_goes_2 rfl ?_
  refine ag_callV_mI (q := 6) (av := [.int _, .int _]) (rest := []) dX8_goes_3 rfl lk8_237 (C_X8_looksAt a1 a2 _) (by decide) (Nat.le_of_ble_eq_true rfl) (by decide) (congrArg Prod.fst s_141) (by decide) (fun _ => rfl) (Nat.le_of_ble_eq_true rfl) rfl (fun r3 s3 e3 => ?_)
  refine ag_istore_3 (q := 7) dX8_goes_6 rfl (Nat.le_of_ble_eq_true rfl) rfl ?_
  refine ag_iload_3 (q := 8) dX8_goes_7 rfl ?_
  refine ag_if_ge (tgt := 15) (q := 11) dX8_goes_8 rfl rfl ?_ ?_
  · refine ag_aload_0 (q := 16) dX8_goes_15 rfl ?_
    refine ag_iload_1 (q := 17) dX8_goes_16 rfl ?_
    refine ag_iload_2 (q := 18) dX8_goes_17 rfl ?_
    refine ag_iconst (q := 19) (v := 1) dX8_goes_18 rfl (by decide) ?_
    refine ag_callV_mI (q := 22) (av := [.int _, .int _, .int _]) (rest := []) dX8_goes_19 rfl lk8_208 (C_X8_comesTo a1 a2 (1 : Int32) _) (by decide) (Nat.le_of_ble_eq_true rfl) (by decide) (congrArg Prod.fst s_141) (by decide) (fun _ => rfl) (Nat.le_of_ble_eq_true rfl) rfl (fun r19 s19 e19 => ?_)
    exact ag_iret dX8_goes_22 rfl rfl
  refine ag_iload_3 (q := 12) dX8_goes_11 rfl ?_
  refine ag_goto (q := 22) dX8_goes_12 rfl ?_
  exact ag_iret dX8_goes_22 rfl rfl
theorem C_X8_goes (a1 : Int32) (a2 : Int32) (σ : Sg) : ∀ r s', J_X8_goes a1 a2 σ = some (r, s') → AMc yX8_goes mX8_goes [.ref 141, .int a1, .int a2] NT R0 σ (some (.int r), NT, R0, s') := fun r s' e => AMc.of (L := [some (.ref 141), some (.int a1), some (.int a2), none]) (by decide) rfl (fun _ => rfl) (fun _ => Nat.le_of_ble_eq_true rfl) (Nat.le_refl _) (fun K => A_X8_goes K a1 a2 σ _ e)
def J_X8_takes (a1 : Int32) (a2 : Int32) (σ : Sg) : Option (Int32 × Sg) :=
  (bd2 (J_X8_looksAt a1 a2 σ) fun r3 s3 => (if 0 ≤ r3 then (bd2 (J_X8_comesTo a1 a2 (1 : Int32) s3) fun r17 s17 => (if 0 ≤ r17 then (some ((s17 141 32), s17)) else (some ((-4 : Int32), s17)))) else (some (r3, s3))))
set_option maxHeartbeats 4000000 in
theorem A_X8_takes (K : KT) (a1 : Int32) (a2 : Int32) (σ : Sg) : AG K mX8_takes (fun a : Int32 × Sg => (some (.int a.1), NT, R0, a.2)) (J_X8_takes a1 a2 σ) 0 [some (.ref 141), some (.int a1), some (.int a2), none, none] [] σ := by
  unfold J_X8_takes
  refine ag_aload_0 (q := 1) dX8_takes_0 rfl ?_
  refine ag_iload_1 (q := 2) dX8_takes_1 rfl ?_
  refine ag_iload_2 (q := 3) dX8_takes_2 rfl ?_
  refine ag_callV_mI (q := 6) (av := [.int _, .int _]) (rest := []) dX8_takes_3 rfl lk8_237 (C_X8_looksAt a1 a2 _) (by decide) (Nat.le_of_ble_eq_true rfl) (by decide) (congrArg Prod.fst s_141) (by decide) (fun _ => rfl) (Nat.le_of_ble_eq_true rfl) rfl (fun r3 s3 e3 => ?_)
  refine ag_istore_3 (q := 7) dX8_takes_6 rfl (Nat.le_of_ble_eq_true rfl) rfl ?_
  refine ag_iload_3 (q := 8) dX8_takes_7 rfl ?_
  refine ag_if_ge (tgt := 13) (q := 11) dX8_takes_8 rfl rfl ?_ ?_
  · refine ag_aload_0 (q := 14) dX8_takes_13 rfl ?_
    refine ag_iload_1 (q := 15) dX8_takes_14 rfl ?_
    refine ag_iload_2 (q := 16) dX8_takes_15 rfl ?_
    refine ag_iconst (q := 17) (v := 1) dX8_takes_16 rfl (by decide) ?_
    refine ag_callV_mI (q := 20) (av := [.int _, .int _, .int _]) (rest := []) dX8_takes_17 rfl lk8_208 (C_X8_comesTo a1 a2 (1 : Int32) _) (by decide) (Nat.le_of_ble_eq_true rfl) (by decide) (congrArg Prod.fst s_141) (by decide) (fun _ => rfl) (Nat.le_of_ble_eq_true rfl) rfl (fun r17 s17 e17 => ?_)
    refine ag_istore_4 (q := 22) dX8_takes_20 rfl (Nat.le_of_ble_eq_true rfl) rfl ?_
    refine ag_iload_4 (q := 24) dX8_takes_22 rfl ?_
    refine ag_if_ge (tgt := 32) (q := 27) dX8_takes_24 rfl rfl ?_ ?_
    · refine ag_aload_0 (q := 33) dX8_takes_32 rfl ?_
      refine ag_getI (q := 36) dX8_takes_33 rfl fl8_198 (by decide) (congrArg Prod.fst s_141) rfl ?_
      exact ag_iret dX8_takes_36 rfl rfl
    refine ag_bipush (q := 29) (v := -4) dX8_takes_27 rfl (by decide) ?_
    refine ag_goto (q := 36) dX8_takes_29 rfl ?_
    exact ag_iret dX8_takes_36 rfl rfl
  refine ag_iload_3 (q := 12) dX8_takes_11 rfl ?_
  exact ag_iret dX8_takes_12 rfl rfl
theorem C_X8_takes (a1 : Int32) (a2 : Int32) (σ : Sg) : ∀ r s', J_X8_takes a1 a2 σ = some (r, s') → AMc yX8_takes mX8_takes [.ref 141, .int a1, .int a2] NT R0 σ (some (.int r), NT, R0, s') := fun r s' e => AMc.of (L := [some (.ref 141), some (.int a1), some (.int a2), none, none]) (by decide) rfl (fun _ => rfl) (fun _ => Nat.le_of_ble_eq_true rfl) (Nat.le_refl _) (fun K => A_X8_takes K a1 a2 σ _ e)
def J_X8_does_b77  (x1 : Int32) (σ : Sg) : Option (Unit × Sg) :=
  (bd2 (J_X8_copies 147 ((54 : Int32) * (σ 141 11)) 146 (0 : Int32) (54 : Int32) σ) fun r95 s95 => (if inb (s95 141 11) 8 = true then (bd2 (J_X8_goesBy x1 (up (up s95 148 (s95 141 11).toNatClampNeg x1) 141 11 (((up s95 148 (s95 141 11).toNatClampNeg x1) 141 11) + (1 : Int32)))) fun r120 s120 => (bd2 (J_X8_copies 146 (0 : Int32) 157 (0 : Int32) (54 : Int32) s120) fun r135 s135 => (some ((), s135)))) else none))
set_option maxHeartbeats 4000000 in
theorem A_X8_does_b77 (K : KT)  (x1 : Int32) (σ : Sg) : AG K mX8_does (fun a : Unit × Sg => (none, NT, R0, a.2)) (J_X8_does_b77   x1 σ) 77 [some (.ref 141), some (.int x1), none] [] σ := by
  unfold J_X8_does_b77
  refine ag_aload_0 (q := 78) dX8_does_77 rfl ?_
  refine ag_getR (q := 81) dX8_does_78 rfl fl8_25 (by decide) (congrArg Prod.fst s_141) rfl r_141_12 ?_
  refine ag_bipush (q := 83) (v := 54) dX8_does_81 rfl (by decide) ?_
  refine ag_aload_0 (q := 84) dX8_does_83 rfl ?_
  refine ag_getI (q := 87) dX8_does_84 rfl fl8_175 (by decide) (congrArg Prod.fst s_141) rfl ?_
  refine ag_imul (q := 88) dX8_does_87 rfl ?_
  refine ag_aload_0 (q := 89) dX8_does_88 rfl ?_
  refine ag_getR (q := 92) dX8_does_89 rfl fl8_22 (by decide) (congrArg Prod.fst s_141) rfl r_141_10 ?_
  refine ag_iconst (q := 93) (v := 0) dX8_does_92 rfl (by decide) ?_
  refine ag_bipush (q := 95) (v := 54) dX8_does_93 rfl (by decide) ?_
  refine ag_callS_mU (q := 98) (av := [.ref _, .int _, .ref _, .int _, .int _]) (rest := []) dX8_does_95 rfl lk8_162 (C_X8_copies 147 (by decide) ((54 : Int32) * (σ 141 11)) 146 (by decide) (0 : Int32) (54 : Int32) _) (by decide) (Nat.le_of_ble_eq_true rfl) (fun _ => rfl) (Nat.le_of_ble_eq_true rfl) rfl (fun r95 s95 e95 => ?_)
  refine ag_aload_0 (q := 99) dX8_does_98 rfl ?_
  refine ag_getR (q := 102) dX8_does_99 rfl fl8_28 (by decide) (congrArg Prod.fst s_141) rfl r_141_13 ?_
  refine ag_aload_0 (q := 103) dX8_does_102 rfl ?_
  refine ag_getI (q := 106) dX8_does_103 rfl fl8_175 (by decide) (congrArg Prod.fst s_141) rfl ?_
  refine ag_iload_1 (q := 107) dX8_does_106 rfl ?_
  refine ag_iast (q := 108) dX8_does_107 rfl (by decide) s_148 ?_
  refine ag_aload_0 (q := 109) dX8_does_108 rfl ?_
  refine ag_dup (q := 110) dX8_does_109 rfl rfl ?_
  refine ag_getI (q := 113) dX8_does_110 rfl fl8_175 (by decide) (congrArg Prod.fst s_141) rfl ?_
  refine ag_iconst (q := 114) (v := 1) dX8_does_113 rfl (by decide) ?_
  refine ag_iadd (q := 115) dX8_does_114 rfl ?_
  refine ag_putI (q := 118) dX8_does_115 rfl fl8_175 (by decide) (congrArg Prod.fst s_141) rfl ?_
  refine ag_aload_0 (q := 119) dX8_does_118 rfl ?_
  refine ag_iload_1 (q := 120) dX8_does_119 rfl ?_
  refine ag_callV_mU (q := 123) (av := [.int _]) (rest := []) dX8_does_120 rfl lk8_240 (C_X8_goesBy x1 _) (by decide) (Nat.le_of_ble_eq_true rfl) (by decide) (congrArg Prod.fst s_141) (by decide) (fun _ => rfl) (Nat.le_of_ble_eq_true rfl) rfl (fun r120 s120 e120 => ?_)
  refine ag_aload_0 (q := 124) dX8_does_123 rfl ?_
  refine ag_getR (q := 127) dX8_does_124 rfl fl8_22 (by decide) (congrArg Prod.fst s_141) rfl r_141_10 ?_
  refine ag_iconst (q := 128) (v := 0) dX8_does_127 rfl (by decide) ?_
  refine ag_aload_0 (q := 129) dX8_does_128 rfl ?_
  refine ag_getR (q := 132) dX8_does_129 rfl fl8_55 (by decide) (congrArg Prod.fst s_141) rfl r_141_31 ?_
  refine ag_iconst (q := 133) (v := 0) dX8_does_132 rfl (by decide) ?_
  refine ag_bipush (q := 135) (v := 54) dX8_does_133 rfl (by decide) ?_
  refine ag_callS_mU (q := 138) (av := [.ref _, .int _, .ref _, .int _, .int _]) (rest := []) dX8_does_135 rfl lk8_162 (C_X8_copies 146 (by decide) (0 : Int32) 157 (by decide) (0 : Int32) (54 : Int32) _) (by decide) (Nat.le_of_ble_eq_true rfl) (fun _ => rfl) (Nat.le_of_ble_eq_true rfl) rfl (fun r135 s135 e135 => ?_)
  exact ag_vret dX8_does_138 rfl rfl
def J_X8_does_b41  : Nat → Int32 → Int32 → Sg → Option (Unit × Sg)
  | 0, _, _, _ => none
  | k + 1, x1, x2, σ =>
    (if (7 : Int32) ≤ x2 then (J_X8_does_b77   x1 (up σ 141 11 ((σ 141 11) - (1 : Int32)))) else (if inb (x2 + (1 : Int32)) 8 = true then (if inb x2 8 = true then (J_X8_does_b41   k x1 (x2 + (1)) (up σ 148 x2.toNatClampNeg (σ 148 (x2 + (1 : Int32)).toNatClampNeg))) else none) else none))
set_option maxHeartbeats 4000000 in
theorem A_X8_does_b41 (K : KT)  : ∀ (k : Nat) (x1 : Int32) (x2 : Int32) (σ : Sg), AG K mX8_does (fun a : Unit × Sg => (none, NT, R0, a.2)) (J_X8_does_b41   k x1 x2 σ) 41 [some (.ref 141), some (.int x1), some (.int x2)] [] σ := by
  intro k
  induction k with
  | zero => intro x1 x2 σ; exact ag_none
  | succ k ih =>
    intro x1 x2 σ
    rw [J_X8_does_b41]
    refine ag_iload_2 (q := 42) dX8_does_41 rfl ?_
    refine ag_bipush (q := 44) (v := 7) dX8_does_42 rfl (by decide) ?_
    refine ag_icmp_ge (tgt := 67) (q := 47) dX8_does_44 rfl rfl ?_ ?_
    · refine ag_aload_0 (q := 68) dX8_does_67 rfl ?_
      refine ag_dup (q := 69) dX8_does_68 rfl rfl ?_
      refine ag_getI (q := 72) dX8_does_69 rfl fl8_175 (by decide) (congrArg Prod.fst s_141) rfl ?_
      refine ag_iconst (q := 73) (v := 1) dX8_does_72 rfl (by decide) ?_
      refine ag_isub (q := 74) dX8_does_73 rfl ?_
      refine ag_putI (q := 77) dX8_does_74 rfl fl8_175 (by decide) (congrArg Prod.fst s_141) rfl ?_
      refine ag_kill_2 ?_
      exact A_X8_does_b77 K   x1 (up σ 141 11 ((σ 141 11) - (1 : Int32)))
    refine ag_aload_0 (q := 48) dX8_does_47 rfl ?_
    refine ag_getR (q := 51) dX8_does_48 rfl fl8_28 (by decide) (congrArg Prod.fst s_141) rfl r_141_13 ?_
    refine ag_iload_2 (q := 52) dX8_does_51 rfl ?_
    refine ag_aload_0 (q := 53) dX8_does_52 rfl ?_
    refine ag_getR (q := 56) dX8_does_53 rfl fl8_28 (by decide) (congrArg Prod.fst s_141) rfl r_141_13 ?_
    refine ag_iload_2 (q := 57) dX8_does_56 rfl ?_
    refine ag_iconst (q := 58) (v := 1) dX8_does_57 rfl (by decide) ?_
    refine ag_iadd (q := 59) dX8_does_58 rfl ?_
    refine ag_iald (q := 60) dX8_does_59 rfl (by decide) s_148 ?_
    refine ag_iast (q := 61) dX8_does_60 rfl (by decide) s_148 ?_
    refine ag_iinc_2 (q := 64) (d := (1)) dX8_does_61 rfl (Nat.le_of_ble_eq_true rfl) rfl (by decide) ?_
    refine ag_goto (q := 41) dX8_does_64 rfl ?_
    exact ih x1 (x2 + (1)) (up σ 148 x2.toNatClampNeg (σ 148 (x2 + (1 : Int32)).toNatClampNeg))
def J_X8_does_b11  : Nat → Int32 → Int32 → Sg → Option (Unit × Sg)
  | 0, _, _, _ => none
  | k + 1, x1, x2, σ =>
    (if (378 : Int32) ≤ x2 then (J_X8_does_b41   FU x1 (0 : Int32) σ) else (if inb (x2 + (54 : Int32)) 432 = true then (if inb x2 432 = true then (J_X8_does_b11   k x1 (x2 + (1)) (up σ 147 x2.toNatClampNeg (σ 147 (x2 + (54 : Int32)).toNatClampNeg))) else none) else none))
set_option maxHeartbeats 4000000 in
theorem A_X8_does_b11 (K : KT)  : ∀ (k : Nat) (x1 : Int32) (x2 : Int32) (σ : Sg), AG K mX8_does (fun a : Unit × Sg => (none, NT, R0, a.2)) (J_X8_does_b11   k x1 x2 σ) 11 [some (.ref 141), some (.int x1), some (.int x2)] [] σ := by
  intro k
  induction k with
  | zero => intro x1 x2 σ; exact ag_none
  | succ k ih =>
    intro x1 x2 σ
    rw [J_X8_does_b11]
    refine ag_iload_2 (q := 12) dX8_does_11 rfl ?_
    refine ag_sipush (q := 15) (v := 378) dX8_does_12 rfl (by decide) ?_
    refine ag_icmp_ge (tgt := 39) (q := 18) dX8_does_15 rfl rfl ?_ ?_
    · refine ag_iconst (q := 40) (v := 0) dX8_does_39 rfl (by decide) ?_
      refine ag_istore_2 (q := 41) dX8_does_40 rfl (Nat.le_of_ble_eq_true rfl) rfl ?_
      exact A_X8_does_b41 K   FU x1 (0 : Int32) σ
    refine ag_aload_0 (q := 19) dX8_does_18 rfl ?_
    refine ag_getR (q := 22) dX8_does_19 rfl fl8_25 (by decide) (congrArg Prod.fst s_141) rfl r_141_12 ?_
    refine ag_iload_2 (q := 23) dX8_does_22 rfl ?_
    refine ag_aload_0 (q := 24) dX8_does_23 rfl ?_
    refine ag_getR (q := 27) dX8_does_24 rfl fl8_25 (by decide) (congrArg Prod.fst s_141) rfl r_141_12 ?_
    refine ag_iload_2 (q := 28) dX8_does_27 rfl ?_
    refine ag_bipush (q := 30) (v := 54) dX8_does_28 rfl (by decide) ?_
    refine ag_iadd (q := 31) dX8_does_30 rfl ?_
    refine ag_iald (q := 32) dX8_does_31 rfl (by decide) s_147 ?_
    refine ag_iast (q := 33) dX8_does_32 rfl (by decide) s_147 ?_
    refine ag_iinc_2 (q := 36) (d := (1)) dX8_does_33 rfl (Nat.le_of_ble_eq_true rfl) rfl (by decide) ?_
    refine ag_goto (q := 11) dX8_does_36 rfl ?_
    exact ih x1 (x2 + (1)) (up σ 147 x2.toNatClampNeg (σ 147 (x2 + (54 : Int32)).toNatClampNeg))
def J_X8_does (a1 : Int32) (σ : Sg) : Option (Unit × Sg) :=
  (if (σ 141 11) = (8 : Int32) then (J_X8_does_b11   FU a1 (0 : Int32) σ) else (J_X8_does_b77   a1 σ))
set_option maxHeartbeats 4000000 in
theorem A_X8_does (K : KT) (a1 : Int32) (σ : Sg) : AG K mX8_does (fun a : Unit × Sg => (none, NT, R0, a.2)) (J_X8_does a1 σ) 0 [some (.ref 141), some (.int a1), none] [] σ := by
  unfold J_X8_does
  refine ag_aload_0 (q := 1) dX8_does_0 rfl ?_
  refine ag_getI (q := 4) dX8_does_1 rfl fl8_175 (by decide) (congrArg Prod.fst s_141) rfl ?_
  refine ag_bipush (q := 6) (v := 8) dX8_does_4 rfl (by decide) ?_
  refine ag_icmp_ne (tgt := 77) (q := 9) dX8_does_6 rfl rfl ?_ ?_
  · exact A_X8_does_b77 K   a1 σ
  refine ag_iconst (q := 10) (v := 0) dX8_does_9 rfl (by decide) ?_
  refine ag_istore_2 (q := 11) dX8_does_10 rfl (Nat.le_of_ble_eq_true rfl) rfl ?_
  exact A_X8_does_b11 K   FU a1 (0 : Int32) σ
theorem C_X8_does (a1 : Int32) (σ : Sg) : ∀ r s', J_X8_does a1 σ = some (r, s') → AMc yX8_does mX8_does [.ref 141, .int a1] NT R0 σ (none, NT, R0, s') := fun r s' e => AMc.of (L := [some (.ref 141), some (.int a1), none]) (by decide) rfl (fun _ => rfl) (fun _ => Nat.le_of_ble_eq_true rfl) (Nat.le_refl _) (fun K => A_X8_does K a1 σ _ e)
def J_X8_drive (a1 : Int32) (a2 : Int32) (σ : Sg) : Option (Int32 × Sg) :=
  (bd1 (J_X8_isBeast a1 σ) fun r2 => (if r2 = 0 then (some ((-1 : Int32), σ)) else (bd1 (J_X8_in a2 (0 : Int32) (3 : Int32) σ) fun r11 => (if r11 = 0 then (some ((-1 : Int32), σ)) else (bd2 (J_X8_asItIs  σ) fun r20 s20 => (bd2 (J_X8_canDrive (((10 : Int32) * a1) + a2) s20) fun r30 s30 => (if r30 = 0 then (some ((-2 : Int32), s30)) else (bd2 (J_X8_comesTo a1 a2 (1 : Int32) s30) fun r43 s43 => (bd2 (J_X8_does (((10 : Int32) * a1) + a2) s43) fun r54 s54 => (some (r43, s54)))))))))))
set_option maxHeartbeats 4000000 in
theorem A_X8_drive (K : KT) (a1 : Int32) (a2 : Int32) (σ : Sg) : AG K mX8_drive (fun a : Int32 × Sg => (some (.int a.1), NT, R0, a.2)) (J_X8_drive a1 a2 σ) 0 [some (.ref 141), some (.int a1), some (.int a2), none] [] σ := by
  unfold J_X8_drive
  refine ag_aload_0 (q := 1) dX8_drive_0 rfl ?_
  refine ag_iload_1 (q := 2) dX8_drive_1 rfl ?_
  refine ag_callV_pI (q := 5) (av := [.int _]) (rest := []) dX8_drive_2 rfl lk8_231 (C_X8_isBeast a1 _) (by decide) (Nat.le_of_ble_eq_true rfl) (by decide) (congrArg Prod.fst s_141) (by decide) (fun _ => rfl) (Nat.le_of_ble_eq_true rfl) rfl (fun r2 e2 => ?_)
  refine ag_if_eq (tgt := 17) (q := 8) dX8_drive_5 rfl rfl ?_ ?_
  · refine ag_iconst (q := 18) (v := -1) dX8_drive_17 rfl (by decide) ?_
    exact ag_iret dX8_drive_18 rfl rfl
  refine ag_iload_2 (q := 9) dX8_drive_8 rfl ?_
  refine ag_iconst (q := 10) (v := 0) dX8_drive_9 rfl (by decide) ?_
  refine ag_iconst (q := 11) (v := 3) dX8_drive_10 rfl (by decide) ?_
  refine ag_callS_pI (q := 14) (av := [.int _, .int _, .int _]) (rest := []) dX8_drive_11 rfl lk8_115 (C_X8_in a2 (0 : Int32) (3 : Int32) _) (by decide) (Nat.le_of_ble_eq_true rfl) (fun _ => rfl) (Nat.le_of_ble_eq_true rfl) rfl (fun r11 e11 => ?_)
  refine ag_if_ne (tgt := 19) (q := 17) dX8_drive_14 rfl rfl ?_ ?_
  · refine ag_aload_0 (q := 20) dX8_drive_19 rfl ?_
    refine ag_callV_mU (q := 23) (av := []) (rest := []) dX8_drive_20 rfl lk8_228 (C_X8_asItIs  _) (by decide) (Nat.le_of_ble_eq_true rfl) (by decide) (congrArg Prod.fst s_141) (by decide) (fun _ => rfl) (Nat.le_of_ble_eq_true rfl) rfl (fun r20 s20 e20 => ?_)
    refine ag_aload_0 (q := 24) dX8_drive_23 rfl ?_
    refine ag_bipush (q := 26) (v := 10) dX8_drive_24 rfl (by decide) ?_
    refine ag_iload_1 (q := 27) dX8_drive_26 rfl ?_
    refine ag_imul (q := 28) dX8_drive_27 rfl ?_
    refine ag_iload_2 (q := 29) dX8_drive_28 rfl ?_
    refine ag_iadd (q := 30) dX8_drive_29 rfl ?_
    refine ag_callV_mI (q := 33) (av := [.int _]) (rest := []) dX8_drive_30 rfl lk8_243 (C_X8_canDrive (((10 : Int32) * a1) + a2) _) (by decide) (Nat.le_of_ble_eq_true rfl) (by decide) (congrArg Prod.fst s_141) (by decide) (fun _ => rfl) (Nat.le_of_ble_eq_true rfl) rfl (fun r30 s30 e30 => ?_)
    refine ag_if_ne (tgt := 39) (q := 36) dX8_drive_33 rfl rfl ?_ ?_
    · refine ag_aload_0 (q := 40) dX8_drive_39 rfl ?_
      refine ag_iload_1 (q := 41) dX8_drive_40 rfl ?_
      refine ag_iload_2 (q := 42) dX8_drive_41 rfl ?_
      refine ag_iconst (q := 43) (v := 1) dX8_drive_42 rfl (by decide) ?_
      refine ag_callV_mI (q := 46) (av := [.int _, .int _, .int _]) (rest := []) dX8_drive_43 rfl lk8_208 (C_X8_comesTo a1 a2 (1 : Int32) _) (by decide) (Nat.le_of_ble_eq_true rfl) (by decide) (congrArg Prod.fst s_141) (by decide) (fun _ => rfl) (Nat.le_of_ble_eq_true rfl) rfl (fun r43 s43 e43 => ?_)
      refine ag_istore_3 (q := 47) dX8_drive_46 rfl (Nat.le_of_ble_eq_true rfl) rfl ?_
      refine ag_aload_0 (q := 48) dX8_drive_47 rfl ?_
      refine ag_bipush (q := 50) (v := 10) dX8_drive_48 rfl (by decide) ?_
      refine ag_iload_1 (q := 51) dX8_drive_50 rfl ?_
      refine ag_imul (q := 52) dX8_drive_51 rfl ?_
      refine ag_iload_2 (q := 53) dX8_drive_52 rfl ?_
      refine ag_iadd (q := 54) dX8_drive_53 rfl ?_
      refine ag_callV_mU (q := 57) (av := [.int _]) (rest := []) dX8_drive_54 rfl lk8_246 (C_X8_does (((10 : Int32) * a1) + a2) _) (by decide) (Nat.le_of_ble_eq_true rfl) (by decide) (congrArg Prod.fst s_141) (by decide) (fun _ => rfl) (Nat.le_of_ble_eq_true rfl) rfl (fun r54 s54 e54 => ?_)
      refine ag_iload_3 (q := 58) dX8_drive_57 rfl ?_
      exact ag_iret dX8_drive_58 rfl rfl
    refine ag_bipush (q := 38) (v := -2) dX8_drive_36 rfl (by decide) ?_
    exact ag_iret dX8_drive_38 rfl rfl
  refine ag_iconst (q := 18) (v := -1) dX8_drive_17 rfl (by decide) ?_
  exact ag_iret dX8_drive_18 rfl rfl
theorem C_X8_drive (a1 : Int32) (a2 : Int32) (σ : Sg) : ∀ r s', J_X8_drive a1 a2 σ = some (r, s') → AMc yX8_drive mX8_drive [.ref 141, .int a1, .int a2] NT R0 σ (some (.int r), NT, R0, s') := fun r s' e => AMc.of (L := [some (.ref 141), some (.int a1), some (.int a2), none]) (by decide) rfl (fun _ => rfl) (fun _ => Nat.le_of_ble_eq_true rfl) (Nat.le_refl _) (fun K => A_X8_drive K a1 a2 σ _ e)
def J_X8_rest  (σ : Sg) : Option (Int32 × Sg) :=
  (bd2 (J_X8_asItIs  σ) fun r1 s1 => (bd1 (J_X8_lost  s1) fun r5 => (if r5 = 0 then (bd2 (J_X8_does (99 : Int32) s1) fun r17 s17 => (some ((s17 146 0), s17))) else (some ((-2 : Int32), s1)))))
set_option maxHeartbeats 4000000 in
theorem A_X8_rest (K : KT)  (σ : Sg) : AG K mX8_rest (fun a : Int32 × Sg => (some (.int a.1), NT, R0, a.2)) (J_X8_rest  σ) 0 [some (.ref 141)] [] σ := by
  unfold J_X8_rest
  refine ag_aload_0 (q := 1) dX8_rest_0 rfl ?_
  refine ag_callV_mU (q := 4) (av := []) (rest := []) dX8_rest_1 rfl lk8_228 (C_X8_asItIs  _) (by decide) (Nat.le_of_ble_eq_true rfl) (by decide) (congrArg Prod.fst s_141) (by decide) (fun _ => rfl) (Nat.le_of_ble_eq_true rfl) rfl (fun r1 s1 e1 => ?_)
  refine ag_aload_0 (q := 5) dX8_rest_4 rfl ?_
  refine ag_callV_pI (q := 8) (av := []) (rest := []) dX8_rest_5 rfl lk8_222 (C_X8_lost  _) (by decide) (Nat.le_of_ble_eq_true rfl) (by decide) (congrArg Prod.fst s_141) (by decide) (fun _ => rfl) (Nat.le_of_ble_eq_true rfl) rfl (fun r5 e5 => ?_)
  refine ag_if_eq (tgt := 14) (q := 11) dX8_rest_8 rfl rfl ?_ ?_
  · refine ag_aload_0 (q := 15) dX8_rest_14 rfl ?_
    refine ag_bipush (q := 17) (v := 99) dX8_rest_15 rfl (by decide) ?_
    refine ag_callV_mU (q := 20) (av := [.int _]) (rest := []) dX8_rest_17 rfl lk8_246 (C_X8_does (99 : Int32) _) (by decide) (Nat.le_of_ble_eq_true rfl) (by decide) (congrArg Prod.fst s_141) (by decide) (fun _ => rfl) (Nat.le_of_ble_eq_true rfl) rfl (fun r17 s17 e17 => ?_)
    refine ag_aload_0 (q := 21) dX8_rest_20 rfl ?_
    refine ag_getR (q := 24) dX8_rest_21 rfl fl8_22 (by decide) (congrArg Prod.fst s_141) rfl r_141_10 ?_
    refine ag_iconst (q := 25) (v := 0) dX8_rest_24 rfl (by decide) ?_
    refine ag_ialdK (q := 26) (k := 0) dX8_rest_25 rfl (by decide) s_146 (by decide) (by decide) ?_
    exact ag_iret dX8_rest_26 rfl rfl
  refine ag_bipush (q := 13) (v := -2) dX8_rest_11 rfl (by decide) ?_
  exact ag_iret dX8_rest_13 rfl rfl
theorem C_X8_rest  (σ : Sg) : ∀ r s', J_X8_rest  σ = some (r, s') → AMc yX8_rest mX8_rest [.ref 141] NT R0 σ (some (.int r), NT, R0, s') := fun r s' e => AMc.of (L := [some (.ref 141)]) (by decide) rfl (fun _ => rfl) (fun _ => Nat.le_of_ble_eq_true rfl) (Nat.le_refl _) (fun K => A_X8_rest K  σ _ e)
def J_X8_undo  (σ : Sg) : Option (Int32 × Sg) :=
  (if (σ 141 11) = 0 then (some ((-2 : Int32), σ)) else (bd2 (J_X8_copies 146 (0 : Int32) 147 ((54 : Int32) * ((up σ 141 11 ((σ 141 11) - (1 : Int32))) 141 11)) (54 : Int32) (up σ 141 11 ((σ 141 11) - (1 : Int32)))) fun r38 s38 => (some ((s38 141 11), s38))))
set_option maxHeartbeats 4000000 in
theorem A_X8_undo (K : KT)  (σ : Sg) : AG K mX8_undo (fun a : Int32 × Sg => (some (.int a.1), NT, R0, a.2)) (J_X8_undo  σ) 0 [some (.ref 141)] [] σ := by
  unfold J_X8_undo
  refine ag_aload_0 (q := 1) dX8_undo_0 rfl ?_
  refine ag_getI (q := 4) dX8_undo_1 rfl fl8_175 (by decide) (congrArg Prod.fst s_141) rfl ?_
  refine ag_if_ne (tgt := 10) (q := 7) dX8_undo_4 rfl rfl ?_ ?_
  · refine ag_aload_0 (q := 11) dX8_undo_10 rfl ?_
    refine ag_dup (q := 12) dX8_undo_11 rfl rfl ?_
    refine ag_getI (q := 15) dX8_undo_12 rfl fl8_175 (by decide) (congrArg Prod.fst s_141) rfl ?_
    refine ag_iconst (q := 16) (v := 1) dX8_undo_15 rfl (by decide) ?_
    refine ag_isub (q := 17) dX8_undo_16 rfl ?_
    refine ag_putI (q := 20) dX8_undo_17 rfl fl8_175 (by decide) (congrArg Prod.fst s_141) rfl ?_
    refine ag_aload_0 (q := 21) dX8_undo_20 rfl ?_
    refine ag_getR (q := 24) dX8_undo_21 rfl fl8_22 (by decide) (congrArg Prod.fst s_141) rfl r_141_10 ?_
    refine ag_iconst (q := 25) (v := 0) dX8_undo_24 rfl (by decide) ?_
    refine ag_aload_0 (q := 26) dX8_undo_25 rfl ?_
    refine ag_getR (q := 29) dX8_undo_26 rfl fl8_25 (by decide) (congrArg Prod.fst s_141) rfl r_141_12 ?_
    refine ag_bipush (q := 31) (v := 54) dX8_undo_29 rfl (by decide) ?_
    refine ag_aload_0 (q := 32) dX8_undo_31 rfl ?_
    refine ag_getI (q := 35) dX8_undo_32 rfl fl8_175 (by decide) (congrArg Prod.fst s_141) rfl ?_
    refine ag_imul (q := 36) dX8_undo_35 rfl ?_
    refine ag_bipush (q := 38) (v := 54) dX8_undo_36 rfl (by decide) ?_
    refine ag_callS_mU (q := 41) (av := [.ref _, .int _, .ref _, .int _, .int _]) (rest := []) dX8_undo_38 rfl lk8_162 (C_X8_copies 146 (by decide) (0 : Int32) 147 (by decide) ((54 : Int32) * ((up σ 141 11 ((σ 141 11) - (1 : Int32))) 141 11)) (54 : Int32) _) (by decide) (Nat.le_of_ble_eq_true rfl) (fun _ => rfl) (Nat.le_of_ble_eq_true rfl) rfl (fun r38 s38 e38 => ?_)
    refine ag_aload_0 (q := 42) dX8_undo_41 rfl ?_
    refine ag_getI (q := 45) dX8_undo_42 rfl fl8_175 (by decide) (congrArg Prod.fst s_141) rfl ?_
    exact ag_iret dX8_undo_45 rfl rfl
  refine ag_bipush (q := 9) (v := -2) dX8_undo_7 rfl (by decide) ?_
  exact ag_iret dX8_undo_9 rfl rfl
theorem C_X8_undo  (σ : Sg) : ∀ r s', J_X8_undo  σ = some (r, s') → AMc yX8_undo mX8_undo [.ref 141] NT R0 σ (some (.int r), NT, R0, s') := fun r s' e => AMc.of (L := [some (.ref 141)]) (by decide) rfl (fun _ => rfl) (fun _ => Nat.le_of_ble_eq_true rfl) (Nat.le_refl _) (fun K => A_X8_undo K  σ _ e)
def J_X8_reaches_b30  (x1 : Int32) (x2 : Int32) (x3 : Int32) (w0 : Int32) (w1 : Int32) (σ : Sg) : Option (Unit × Sg) :=
  (if inb w1 72 = true then (if inb x1 72 = true then (if inb x1 72 = true then (if inb ((up (up (up σ 159 w1.toNatClampNeg w0) 160 x1.toNatClampNeg x2) 161 x1.toNatClampNeg x3) 141 37) 72 = true then (some ((), (up (up (up (up (up σ 159 w1.toNatClampNeg w0) 160 x1.toNatClampNeg x2) 161 x1.toNatClampNeg x3) 158 ((up (up (up σ 159 w1.toNatClampNeg w0) 160 x1.toNatClampNeg x2) 161 x1.toNatClampNeg x3) 141 37).toNatClampNeg x1) 141 37 (((up (up (up (up σ 159 w1.toNatClampNeg w0) 160 x1.toNatClampNeg x2) 161 x1.toNatClampNeg x3) 158 ((up (up (up σ 159 w1.toNatClampNeg w0) 160 x1.toNatClampNeg x2) 161 x1.toNatClampNeg x3) 141 37).toNatClampNeg x1) 141 37) + (1 : Int32))))) else none) else none) else none) else none)
set_option maxHeartbeats 4000000 in
theorem A_X8_reaches_b30 (K : KT)  (x1 : Int32) (x2 : Int32) (x3 : Int32) (w0 : Int32) (w1 : Int32) (σ : Sg) : AG K mX8_reaches (fun a : Unit × Sg => (none, NT, R0, a.2)) (J_X8_reaches_b30   x1 x2 x3 w0 w1 σ) 30 [some (.ref 141), some (.int x1), some (.int x2), some (.int x3)] [.int w0, .int w1, .ref 159] σ := by
  unfold J_X8_reaches_b30
  refine ag_iast (q := 31) dX8_reaches_30 rfl (by decide) s_159 ?_
  refine ag_aload_0 (q := 32) dX8_reaches_31 rfl ?_
  refine ag_getR (q := 35) dX8_reaches_32 rfl fl8_64 (by decide) (congrArg Prod.fst s_141) rfl r_141_35 ?_
  refine ag_iload_1 (q := 36) dX8_reaches_35 rfl ?_
  refine ag_iload_2 (q := 37) dX8_reaches_36 rfl ?_
  refine ag_iast (q := 38) dX8_reaches_37 rfl (by decide) s_160 ?_
  refine ag_aload_0 (q := 39) dX8_reaches_38 rfl ?_
  refine ag_getR (q := 42) dX8_reaches_39 rfl fl8_67 (by decide) (congrArg Prod.fst s_141) rfl r_141_36 ?_
  refine ag_iload_1 (q := 43) dX8_reaches_42 rfl ?_
  refine ag_iload_3 (q := 44) dX8_reaches_43 rfl ?_
  refine ag_iast (q := 45) dX8_reaches_44 rfl (by decide) s_161 ?_
  refine ag_aload_0 (q := 46) dX8_reaches_45 rfl ?_
  refine ag_getR (q := 49) dX8_reaches_46 rfl fl8_58 (by decide) (congrArg Prod.fst s_141) rfl r_141_33 ?_
  refine ag_aload_0 (q := 50) dX8_reaches_49 rfl ?_
  refine ag_getI (q := 53) dX8_reaches_50 rfl fl8_249 (by decide) (congrArg Prod.fst s_141) rfl ?_
  refine ag_iload_1 (q := 54) dX8_reaches_53 rfl ?_
  refine ag_iast (q := 55) dX8_reaches_54 rfl (by decide) s_158 ?_
  refine ag_aload_0 (q := 56) dX8_reaches_55 rfl ?_
  refine ag_dup (q := 57) dX8_reaches_56 rfl rfl ?_
  refine ag_getI (q := 60) dX8_reaches_57 rfl fl8_249 (by decide) (congrArg Prod.fst s_141) rfl ?_
  refine ag_iconst (q := 61) (v := 1) dX8_reaches_60 rfl (by decide) ?_
  refine ag_iadd (q := 62) dX8_reaches_61 rfl ?_
  refine ag_putI (q := 65) dX8_reaches_62 rfl fl8_249 (by decide) (congrArg Prod.fst s_141) rfl ?_
  exact ag_vret dX8_reaches_65 rfl rfl
def J_X8_reaches (a1 : Int32) (a2 : Int32) (a3 : Int32) (σ : Sg) : Option (Unit × Sg) :=
  (if inb a1 72 = true then (if 0 ≤ (σ 159 a1.toNatClampNeg) then (some ((), σ)) else (if 0 ≤ a2 then (if inb a2 72 = true then (J_X8_reaches_b30   a1 a2 a3 ((σ 159 a2.toNatClampNeg) + (1 : Int32)) a1 σ) else none) else (J_X8_reaches_b30   a1 a2 a3 (0 : Int32) a1 σ))) else none)
set_option maxHeartbeats 4000000 in
theorem A_X8_reaches (K : KT) (a1 : Int32) (a2 : Int32) (a3 : Int32) (σ : Sg) : AG K mX8_reaches (fun a : Unit × Sg => (none, NT, R0, a.2)) (J_X8_reaches a1 a2 a3 σ) 0 [some (.ref 141), some (.int a1), some (.int a2), some (.int a3)] [] σ := by
  unfold J_X8_reaches
  refine ag_aload_0 (q := 1) dX8_reaches_0 rfl ?_
  refine ag_getR (q := 4) dX8_reaches_1 rfl fl8_61 (by decide) (congrArg Prod.fst s_141) rfl r_141_34 ?_
  refine ag_iload_1 (q := 5) dX8_reaches_4 rfl ?_
  refine ag_iald (q := 6) dX8_reaches_5 rfl (by decide) s_159 ?_
  refine ag_if_ge (tgt := 65) (q := 9) dX8_reaches_6 rfl rfl ?_ ?_
  · exact ag_vret dX8_reaches_65 rfl rfl
  refine ag_aload_0 (q := 10) dX8_reaches_9 rfl ?_
  refine ag_getR (q := 13) dX8_reaches_10 rfl fl8_61 (by decide) (congrArg Prod.fst s_141) rfl r_141_34 ?_
  refine ag_iload_1 (q := 14) dX8_reaches_13 rfl ?_
  refine ag_iload_2 (q := 15) dX8_reaches_14 rfl ?_
  refine ag_if_ge (tgt := 22) (q := 18) dX8_reaches_15 rfl rfl ?_ ?_
  · refine ag_aload_0 (q := 23) dX8_reaches_22 rfl ?_
    refine ag_getR (q := 26) dX8_reaches_23 rfl fl8_61 (by decide) (congrArg Prod.fst s_141) rfl r_141_34 ?_
    refine ag_iload_2 (q := 27) dX8_reaches_26 rfl ?_
    refine ag_iald (q := 28) dX8_reaches_27 rfl (by decide) s_159 ?_
    refine ag_iconst (q := 29) (v := 1) dX8_reaches_28 rfl (by decide) ?_
    refine ag_iadd (q := 30) dX8_reaches_29 rfl ?_
    exact A_X8_reaches_b30 K   a1 a2 a3 ((σ 159 a2.toNatClampNeg) + (1 : Int32)) a1 σ
  refine ag_iconst (q := 19) (v := 0) dX8_reaches_18 rfl (by decide) ?_
  refine ag_goto (q := 30) dX8_reaches_19 rfl ?_
  exact A_X8_reaches_b30 K   a1 a2 a3 (0 : Int32) a1 σ
theorem C_X8_reaches (a1 : Int32) (a2 : Int32) (a3 : Int32) (σ : Sg) : ∀ r s', J_X8_reaches a1 a2 a3 σ = some (r, s') → AMc yX8_reaches mX8_reaches [.ref 141, .int a1, .int a2, .int a3] NT R0 σ (none, NT, R0, s') := fun r s' e => AMc.of (L := [some (.ref 141), some (.int a1), some (.int a2), some (.int a3)]) (by decide) rfl (fun _ => rfl) (fun _ => Nat.le_of_ble_eq_true rfl) (Nat.le_refl _) (fun K => A_X8_reaches K a1 a2 a3 σ _ e)
def J_X8_nowOne (a1 : Int32) (σ : Sg) : Option Int32 :=
  (if inb ((37 : Int32) + a1) 54 = true then (bd1 (J_X8_has (σ 157 53) a1 σ) fun r17 => (if r17 = 0 then (some ((σ 157 ((37 : Int32) + a1).toNatClampNeg) + (0 : Int32))) else (some ((σ 157 ((37 : Int32) + a1).toNatClampNeg) + (36 : Int32))))) else none)
set_option maxHeartbeats 4000000 in
theorem A_X8_nowOne (K : KT) (a1 : Int32) (σ : Sg) : AG K mX8_nowOne (fun a : Int32 => (some (.int a), NT, R0, σ)) (J_X8_nowOne a1 σ) 0 [some (.ref 141), some (.int a1)] [] σ := by
  unfold J_X8_nowOne
  refine ag_aload_0 (q := 1) dX8_nowOne_0 rfl ?_
  refine ag_getR (q := 4) dX8_nowOne_1 rfl fl8_55 (by decide) (congrArg Prod.fst s_141) rfl r_141_31 ?_
  refine ag_bipush (q := 6) (v := 37) dX8_nowOne_4 rfl (by decide) ?_
  refine ag_iload_1 (q := 7) dX8_nowOne_6 rfl ?_
  refine ag_iadd (q := 8) dX8_nowOne_7 rfl ?_
  refine ag_iald (q := 9) dX8_nowOne_8 rfl (by decide) s_157 ?_
  refine ag_aload_0 (q := 10) dX8_nowOne_9 rfl ?_
  refine ag_getR (q := 13) dX8_nowOne_10 rfl fl8_55 (by decide) (congrArg Prod.fst s_141) rfl r_141_31 ?_
  refine ag_bipush (q := 15) (v := 53) dX8_nowOne_13 rfl (by decide) ?_
  refine ag_ialdK (q := 16) (k := 53) dX8_nowOne_15 rfl (by decide) s_157 (by decide) (by decide) ?_
  refine ag_iload_1 (q := 17) dX8_nowOne_16 rfl ?_
  refine ag_callS_pI (q := 20) (av := [.int _, .int _]) (rest := [.int _]) dX8_nowOne_17 rfl lk8_181 (C_X8_has (σ 157 53) a1 _) (by decide) (Nat.le_of_ble_eq_true rfl) (fun _ => rfl) (Nat.le_of_ble_eq_true rfl) rfl (fun r17 e17 => ?_)
  refine ag_if_eq (tgt := 28) (q := 23) dX8_nowOne_20 rfl rfl ?_ ?_
  · refine ag_iconst (q := 29) (v := 0) dX8_nowOne_28 rfl (by decide) ?_
    refine ag_iadd (q := 30) dX8_nowOne_29 rfl ?_
    exact ag_iret dX8_nowOne_30 rfl rfl
  refine ag_bipush (q := 25) (v := 36) dX8_nowOne_23 rfl (by decide) ?_
  refine ag_goto (q := 29) dX8_nowOne_25 rfl ?_
  refine ag_iadd (q := 30) dX8_nowOne_29 rfl ?_
  exact ag_iret dX8_nowOne_30 rfl rfl
theorem C_X8_nowOne (a1 : Int32) (σ : Sg) : ∀ r, J_X8_nowOne a1 σ = some r → AMc yX8_nowOne mX8_nowOne [.ref 141, .int a1] NT R0 σ (some (.int r), NT, R0, σ) := fun r e => AMc.of (L := [some (.ref 141), some (.int a1)]) (by decide) rfl (fun _ => rfl) (fun _ => Nat.le_of_ble_eq_true rfl) (Nat.le_refl _) (fun K => A_X8_nowOne K a1 σ _ e)
