def J_X8_strays_b131  (y58 : Int32 → Int32 → Int32 → Int32 → Sg → Option (Unit × Sg)) (y79 : Int32 → Int32 → Int32 → Int32 → Int32 → Int32 → Sg → Option (Unit × Sg)) (x1 : Int32) (x2 : Int32) (x3 : Int32) (x4 : Int32) (x5 : Int32) (x6 : Int32) (w0 : Int32) (w1 : Int32) (w2 : Int32) (σ : Sg) : Option (Unit × Sg) :=
  (if inb w2 54 = true then (bd2 (J_X8_comesTo x1 x6 (0 : Int32) (up σ 157 w2.toNatClampNeg (w1 ||| w0))) fun r138 s138 => (if r138 < 0 then (y79 x1 x2 x3 x4 x5 (x6 + (1)) s138) else (bd2 (J_X8_stands x1 r138 s138) fun r152 s152 => (bd1 (J_X8_nowOne x1 s152) fun r158 => (bd2 (J_X8_reaches r158 x5 x6 s152) fun r165 s165 => (y79 x1 x2 x3 x4 x5 (x6 + (1)) s165)))))) else none)
set_option maxHeartbeats 4000000 in
theorem A_X8_strays_b131 (K : KT)  (y58 : Int32 → Int32 → Int32 → Int32 → Sg → Option (Unit × Sg)) (hy58 : ∀ (x1 : Int32) (x2 : Int32) (x3 : Int32) (x4 : Int32) (σ : Sg), AG K mX8_strays (fun a : Unit × Sg => (none, NT, R0, a.2)) (y58 x1 x2 x3 x4 σ) 58 [some (.ref 141), some (.int x1), some (.int x2), some (.int x3), some (.int x4), none, none, none] [] σ) (y79 : Int32 → Int32 → Int32 → Int32 → Int32 → Int32 → Sg → Option (Unit × Sg)) (hy79 : ∀ (x1 : Int32) (x2 : Int32) (x3 : Int32) (x4 : Int32) (x5 : Int32) (x6 : Int32) (σ : Sg), AG K mX8_strays (fun a : Unit × Sg => (none, NT, R0, a.2)) (y79 x1 x2 x3 x4 x5 x6 σ) 79 [some (.ref 141), some (.int x1), some (.int x2), some (.int x3), some (.int x4), some (.int x5), some (.int x6), none] [] σ) (x1 : Int32) (x2 : Int32) (x3 : Int32) (x4 : Int32) (x5 : Int32) (x6 : Int32) (w0 : Int32) (w1 : Int32) (w2 : Int32) (σ : Sg) : AG K mX8_strays (fun a : Unit × Sg => (none, NT, R0, a.2)) (J_X8_strays_b131  y58 y79 x1 x2 x3 x4 x5 x6 w0 w1 w2 σ) 131 [some (.ref 141), some (.int x1), some (.int x2), some (.int x3), some (.int x4), some (.int x5), some (.int x6), none] [.int w0, .int w1, .int w2, .ref 157] σ := by
  unfold J_X8_strays_b131
  refine ag_ior (q := 132) dX8_strays_131 rfl ?_
  refine ag_iast (q := 133) dX8_strays_132 rfl (by decide) s_157 ?_
  refine ag_aload_0 (q := 134) dX8_strays_133 rfl ?_
  refine ag_iload_1 (q := 135) dX8_strays_134 rfl ?_
  refine ag_iload_6 (q := 137) dX8_strays_135 rfl ?_
  refine ag_iconst (q := 138) (v := 0) dX8_strays_137 rfl (by decide) ?_
  refine ag_callV_mI (q := 141) (av := [.int _, .int _, .int _]) (rest := []) dX8_strays_138 rfl lk8_208 (C_X8_comesTo x1 x6 (0 : Int32) _) (by decide) (Nat.le_of_ble_eq_true rfl) (by decide) (congrArg Prod.fst s_141) (by decide) (fun _ => rfl) (Nat.le_of_ble_eq_true rfl) rfl (fun r138 s138 e138 => ?_)
  refine ag_istore_7 (q := 143) dX8_strays_141 rfl (Nat.le_of_ble_eq_true rfl) rfl ?_
  refine ag_iload_7 (q := 145) dX8_strays_143 rfl ?_
  refine ag_if_lt (tgt := 168) (q := 148) dX8_strays_145 rfl rfl ?_ ?_
  · refine ag_iinc_6 (q := 171) (d := (1)) dX8_strays_168 rfl (Nat.le_of_ble_eq_true rfl) rfl (by decide) ?_
    refine ag_goto (q := 79) dX8_strays_171 rfl ?_
    refine ag_kill_7 ?_
    exact hy79 x1 x2 x3 x4 x5 (x6 + (1)) s138
  refine ag_aload_0 (q := 149) dX8_strays_148 rfl ?_
  refine ag_iload_1 (q := 150) dX8_strays_149 rfl ?_
  refine ag_iload_7 (q := 152) dX8_strays_150 rfl ?_
  refine ag_callV_mU (q := 155) (av := [.int _, .int _]) (rest := []) dX8_strays_152 rfl lk8_212 (C_X8_stands x1 r138 _) (by decide) (Nat.le_of_ble_eq_true rfl) (by decide) (congrArg Prod.fst s_141) (by decide) (fun _ => rfl) (Nat.le_of_ble_eq_true rfl) rfl (fun r152 s152 e152 => ?_)
  refine ag_aload_0 (q := 156) dX8_strays_155 rfl ?_
  refine ag_aload_0 (q := 157) dX8_strays_156 rfl ?_
  refine ag_iload_1 (q := 158) dX8_strays_157 rfl ?_
  refine ag_callV_pI (q := 161) (av := [.int _]) (rest := [.ref _]) dX8_strays_158 rfl lk8_252 (C_X8_nowOne x1 _) (by decide) (Nat.le_of_ble_eq_true rfl) (by decide) (congrArg Prod.fst s_141) (by decide) (fun _ => rfl) (Nat.le_of_ble_eq_true rfl) rfl (fun r158 e158 => ?_)
  refine ag_iload_5 (q := 163) dX8_strays_161 rfl ?_
  refine ag_iload_6 (q := 165) dX8_strays_163 rfl ?_
  refine ag_callV_mU (q := 168) (av := [.int _, .int _, .int _]) (rest := []) dX8_strays_165 rfl lk8_255 (C_X8_reaches r158 x5 x6 _) (by decide) (Nat.le_of_ble_eq_true rfl) (by decide) (congrArg Prod.fst s_141) (by decide) (fun _ => rfl) (Nat.le_of_ble_eq_true rfl) rfl (fun r165 s165 e165 => ?_)
  refine ag_iinc_6 (q := 171) (d := (1)) dX8_strays_168 rfl (Nat.le_of_ble_eq_true rfl) rfl (by decide) ?_
  refine ag_goto (q := 79) dX8_strays_171 rfl ?_
  refine ag_kill_7 ?_
  exact hy79 x1 x2 x3 x4 x5 (x6 + (1)) s165
def J_X8_strays_b79  (y58 : Int32 → Int32 → Int32 → Int32 → Sg → Option (Unit × Sg)) : Nat → Int32 → Int32 → Int32 → Int32 → Int32 → Int32 → Sg → Option (Unit × Sg)
  | 0, _, _, _, _, _, _, _ => none
  | k + 1, x1, x2, x3, x4, x5, x6, σ =>
    (if (4 : Int32) ≤ x6 then (y58 x1 x2 x3 (x4 + (1)) σ) else (if inb x5 72 = true then (if x2 ≤ (σ 159 x5.toNatClampNeg) then (y58 x1 x2 x3 (x4 + (1)) σ) else (if inb ((37 : Int32) + x1) 54 = true then (if x5 < (36 : Int32) then (J_X8_strays_b131  y58 (fun x1 x2 x3 x4 x5 x6 σ => J_X8_strays_b79  y58 k x1 x2 x3 x4 x5 x6 σ) x1 x2 x3 x4 x5 x6 (0 : Int32) x3 (53 : Int32) (up σ 157 ((37 : Int32) + x1).toNatClampNeg (rmI x5 (36 : Int32)))) else (J_X8_strays_b131  y58 (fun x1 x2 x3 x4 x5 x6 σ => J_X8_strays_b79  y58 k x1 x2 x3 x4 x5 x6 σ) x1 x2 x3 x4 x5 x6 ((1 : Int32) <<< (x1 &&& 31)) x3 (53 : Int32) (up σ 157 ((37 : Int32) + x1).toNatClampNeg (rmI x5 (36 : Int32))))) else none)) else none))
set_option maxHeartbeats 4000000 in
theorem A_X8_strays_b79 (K : KT)  (y58 : Int32 → Int32 → Int32 → Int32 → Sg → Option (Unit × Sg)) (hy58 : ∀ (x1 : Int32) (x2 : Int32) (x3 : Int32) (x4 : Int32) (σ : Sg), AG K mX8_strays (fun a : Unit × Sg => (none, NT, R0, a.2)) (y58 x1 x2 x3 x4 σ) 58 [some (.ref 141), some (.int x1), some (.int x2), some (.int x3), some (.int x4), none, none, none] [] σ) : ∀ (k : Nat) (x1 : Int32) (x2 : Int32) (x3 : Int32) (x4 : Int32) (x5 : Int32) (x6 : Int32) (σ : Sg), AG K mX8_strays (fun a : Unit × Sg => (none, NT, R0, a.2)) (J_X8_strays_b79  y58 k x1 x2 x3 x4 x5 x6 σ) 79 [some (.ref 141), some (.int x1), some (.int x2), some (.int x3), some (.int x4), some (.int x5), some (.int x6), none] [] σ := by
  intro k
  induction k with
  | zero => intro x1 x2 x3 x4 x5 x6 σ; exact ag_none
  | succ k ih =>
    intro x1 x2 x3 x4 x5 x6 σ
    rw [J_X8_strays_b79]
    refine ag_iload_6 (q := 81) dX8_strays_79 rfl ?_
    refine ag_iconst (q := 82) (v := 4) dX8_strays_81 rfl (by decide) ?_
    refine ag_icmp_ge (tgt := 174) (q := 85) dX8_strays_82 rfl rfl ?_ ?_
    · refine ag_iinc_4 (q := 177) (d := (1)) dX8_strays_174 rfl (Nat.le_of_ble_eq_true rfl) rfl (by decide) ?_
      refine ag_goto (q := 58) dX8_strays_177 rfl ?_
      refine ag_kill_5 ?_
      refine ag_kill_6 ?_
      exact hy58 x1 x2 x3 (x4 + (1)) σ
    refine ag_aload_0 (q := 86) dX8_strays_85 rfl ?_
    refine ag_getR (q := 89) dX8_strays_86 rfl fl8_61 (by decide) (congrArg Prod.fst s_141) rfl r_141_34 ?_
    refine ag_iload_5 (q := 91) dX8_strays_89 rfl ?_
    refine ag_iald (q := 92) dX8_strays_91 rfl (by decide) s_159 ?_
    refine ag_iload_2 (q := 93) dX8_strays_92 rfl ?_
    refine ag_icmp_ge (tgt := 174) (q := 96) dX8_strays_93 rfl rfl ?_ ?_
    · refine ag_iinc_4 (q := 177) (d := (1)) dX8_strays_174 rfl (Nat.le_of_ble_eq_true rfl) rfl (by decide) ?_
      refine ag_goto (q := 58) dX8_strays_177 rfl ?_
      refine ag_kill_5 ?_
      refine ag_kill_6 ?_
      exact hy58 x1 x2 x3 (x4 + (1)) σ
    refine ag_aload_0 (q := 97) dX8_strays_96 rfl ?_
    refine ag_getR (q := 100) dX8_strays_97 rfl fl8_55 (by decide) (congrArg Prod.fst s_141) rfl r_141_31 ?_
    refine ag_bipush (q := 102) (v := 37) dX8_strays_100 rfl (by decide) ?_
    refine ag_iload_1 (q := 103) dX8_strays_102 rfl ?_
    refine ag_iadd (q := 104) dX8_strays_103 rfl ?_
    refine ag_iload_5 (q := 106) dX8_strays_104 rfl ?_
    refine ag_bipush (q := 108) (v := 36) dX8_strays_106 rfl (by decide) ?_
    refine ag_iremK (q := 109) dX8_strays_108 rfl (by decide) ?_
    refine ag_iast (q := 110) dX8_strays_109 rfl (by decide) s_157 ?_
    refine ag_aload_0 (q := 111) dX8_strays_110 rfl ?_
    refine ag_getR (q := 114) dX8_strays_111 rfl fl8_55 (by decide) (congrArg Prod.fst s_141) rfl r_141_31 ?_
    refine ag_bipush (q := 116) (v := 53) dX8_strays_114 rfl (by decide) ?_
    refine ag_iload_3 (q := 117) dX8_strays_116 rfl ?_
    refine ag_iload_5 (q := 119) dX8_strays_117 rfl ?_
    refine ag_bipush (q := 121) (v := 36) dX8_strays_119 rfl (by decide) ?_
    refine ag_icmp_lt (tgt := 130) (q := 124) dX8_strays_121 rfl rfl ?_ ?_
    · refine ag_iconst (q := 131) (v := 0) dX8_strays_130 rfl (by decide) ?_
      exact A_X8_strays_b131 K  y58 hy58 (fun x1 x2 x3 x4 x5 x6 σ => J_X8_strays_b79  y58 k x1 x2 x3 x4 x5 x6 σ) (fun x1 x2 x3 x4 x5 x6 σ => ih x1 x2 x3 x4 x5 x6 σ) x1 x2 x3 x4 x5 x6 (0 : Int32) x3 (53 : Int32) (up σ 157 ((37 : Int32) + x1).toNatClampNeg (rmI x5 (36 : Int32)))
    refine ag_iconst (q := 125) (v := 1) dX8_strays_124 rfl (by decide) ?_
    refine ag_iload_1 (q := 126) dX8_strays_125 rfl ?_
    refine ag_ishl (q := 127) dX8_strays_126 rfl ?_
    refine ag_goto (q := 131) dX8_strays_127 rfl ?_
    exact A_X8_strays_b131 K  y58 hy58 (fun x1 x2 x3 x4 x5 x6 σ => J_X8_strays_b79  y58 k x1 x2 x3 x4 x5 x6 σ) (fun x1 x2 x3 x4 x5 x6 σ => ih x1 x2 x3 x4 x5 x6 σ) x1 x2 x3 x4 x5 x6 ((1 : Int32) <<< (x1 &&& 31)) x3 (53 : Int32) (up σ 157 ((37 : Int32) + x1).toNatClampNeg (rmI x5 (36 : Int32)))
def J_X8_strays_b58  : Nat → Int32 → Int32 → Int32 → Int32 → Sg → Option (Unit × Sg)
  | 0, _, _, _, _, _ => none
  | k + 1, x1, x2, x3, x4, σ =>
    (if (σ 141 37) ≤ x4 then (some ((), σ)) else (if inb x4 72 = true then (J_X8_strays_b79  (fun x1 x2 x3 x4 σ => J_X8_strays_b58   k x1 x2 x3 x4 σ) FU x1 x2 x3 x4 (σ 158 x4.toNatClampNeg) (0 : Int32) σ) else none))
set_option maxHeartbeats 4000000 in
theorem A_X8_strays_b58 (K : KT)  : ∀ (k : Nat) (x1 : Int32) (x2 : Int32) (x3 : Int32) (x4 : Int32) (σ : Sg), AG K mX8_strays (fun a : Unit × Sg => (none, NT, R0, a.2)) (J_X8_strays_b58   k x1 x2 x3 x4 σ) 58 [some (.ref 141), some (.int x1), some (.int x2), some (.int x3), some (.int x4), none, none, none] [] σ := by
  intro k
  induction k with
  | zero => intro x1 x2 x3 x4 σ; exact ag_none
  | succ k ih =>
    intro x1 x2 x3 x4 σ
    rw [J_X8_strays_b58]
    refine ag_iload_4 (q := 60) dX8_strays_58 rfl ?_
    refine ag_aload_0 (q := 61) dX8_strays_60 rfl ?_
    refine ag_getI (q := 64) dX8_strays_61 rfl fl8_249 (by decide) (congrArg Prod.fst s_141) rfl ?_
    refine ag_icmp_ge (tgt := 180) (q := 67) dX8_strays_64 rfl rfl ?_ ?_
    · exact ag_vret dX8_strays_180 rfl rfl
    refine ag_aload_0 (q := 68) dX8_strays_67 rfl ?_
    refine ag_getR (q := 71) dX8_strays_68 rfl fl8_58 (by decide) (congrArg Prod.fst s_141) rfl r_141_33 ?_
    refine ag_iload_4 (q := 73) dX8_strays_71 rfl ?_
    refine ag_iald (q := 74) dX8_strays_73 rfl (by decide) s_158 ?_
    refine ag_istore_5 (q := 76) dX8_strays_74 rfl (Nat.le_of_ble_eq_true rfl) rfl ?_
    refine ag_iconst (q := 77) (v := 0) dX8_strays_76 rfl (by decide) ?_
    refine ag_istore_6 (q := 79) dX8_strays_77 rfl (Nat.le_of_ble_eq_true rfl) rfl ?_
    exact A_X8_strays_b79 K  (fun x1 x2 x3 x4 σ => J_X8_strays_b58   k x1 x2 x3 x4 σ) (fun x1 x2 x3 x4 σ => ih x1 x2 x3 x4 σ) FU x1 x2 x3 x4 (σ 158 x4.toNatClampNeg) (0 : Int32) σ
def J_X8_strays_b2  : Nat → Int32 → Int32 → Int32 → Sg → Option (Unit × Sg)
  | 0, _, _, _, _ => none
  | k + 1, x1, x2, x3, σ =>
    (if (72 : Int32) ≤ x3 then (bd2 (J_X8_asItIs  (up σ 141 37 (0 : Int32))) fun r27 s27 => (bd1 (J_X8_nowOne x1 s27) fun r47 => (bd2 (J_X8_reaches r47 (-1 : Int32) (0 : Int32) s27) fun r52 s52 => (J_X8_strays_b58   FU x1 x2 ((s27 157 53) &&& (((1 : Int32) <<< (x1 &&& 31)) ^^^ (-1 : Int32))) (0 : Int32) s52)))) else (if inb x3 72 = true then (J_X8_strays_b2   k x1 x2 (x3 + (1)) (up σ 159 x3.toNatClampNeg (-1 : Int32))) else none))
set_option maxHeartbeats 4000000 in
theorem A_X8_strays_b2 (K : KT)  : ∀ (k : Nat) (x1 : Int32) (x2 : Int32) (x3 : Int32) (σ : Sg), AG K mX8_strays (fun a : Unit × Sg => (none, NT, R0, a.2)) (J_X8_strays_b2   k x1 x2 x3 σ) 2 [some (.ref 141), some (.int x1), some (.int x2), some (.int x3), none, none, none, none] [] σ := by
  intro k
  induction k with
  | zero => intro x1 x2 x3 σ; exact ag_none
  | succ k ih =>
    intro x1 x2 x3 σ
    rw [J_X8_strays_b2]
    refine ag_iload_3 (q := 3) dX8_strays_2 rfl ?_
    refine ag_bipush (q := 5) (v := 72) dX8_strays_3 rfl (by decide) ?_
    refine ag_icmp_ge (tgt := 21) (q := 8) dX8_strays_5 rfl rfl ?_ ?_
    · refine ag_aload_0 (q := 22) dX8_strays_21 rfl ?_
      refine ag_iconst (q := 23) (v := 0) dX8_strays_22 rfl (by decide) ?_
      refine ag_putI (q := 26) dX8_strays_23 rfl fl8_249 (by decide) (congrArg Prod.fst s_141) rfl ?_
      refine ag_aload_0 (q := 27) dX8_strays_26 rfl ?_
      refine ag_callV_mU (q := 30) (av := []) (rest := []) dX8_strays_27 rfl lk8_228 (C_X8_asItIs  _) (by decide) (Nat.le_of_ble_eq_true rfl) (by decide) (congrArg Prod.fst s_141) (by decide) (fun _ => rfl) (Nat.le_of_ble_eq_true rfl) rfl (fun r27 s27 e27 => ?_)
      refine ag_aload_0 (q := 31) dX8_strays_30 rfl ?_
      refine ag_getR (q := 34) dX8_strays_31 rfl fl8_55 (by decide) (congrArg Prod.fst s_141) rfl r_141_31 ?_
      refine ag_bipush (q := 36) (v := 53) dX8_strays_34 rfl (by decide) ?_
      refine ag_ialdK (q := 37) (k := 53) dX8_strays_36 rfl (by decide) s_157 (by decide) (by decide) ?_
      refine ag_iconst (q := 38) (v := 1) dX8_strays_37 rfl (by decide) ?_
      refine ag_iload_1 (q := 39) dX8_strays_38 rfl ?_
      refine ag_ishl (q := 40) dX8_strays_39 rfl ?_
      refine ag_iconst (q := 41) (v := -1) dX8_strays_40 rfl (by decide) ?_
      refine ag_ixor (q := 42) dX8_strays_41 rfl ?_
      refine ag_iand (q := 43) dX8_strays_42 rfl ?_
      refine ag_istore_3 (q := 44) dX8_strays_43 rfl (Nat.le_of_ble_eq_true rfl) rfl ?_
      refine ag_aload_0 (q := 45) dX8_strays_44 rfl ?_
      refine ag_aload_0 (q := 46) dX8_strays_45 rfl ?_
      refine ag_iload_1 (q := 47) dX8_strays_46 rfl ?_
      refine ag_callV_pI (q := 50) (av := [.int _]) (rest := [.ref _]) dX8_strays_47 rfl lk8_252 (C_X8_nowOne x1 _) (by decide) (Nat.le_of_ble_eq_true rfl) (by decide) (congrArg Prod.fst s_141) (by decide) (fun _ => rfl) (Nat.le_of_ble_eq_true rfl) rfl (fun r47 e47 => ?_)
      refine ag_iconst (q := 51) (v := -1) dX8_strays_50 rfl (by decide) ?_
      refine ag_iconst (q := 52) (v := 0) dX8_strays_51 rfl (by decide) ?_
      refine ag_callV_mU (q := 55) (av := [.int _, .int _, .int _]) (rest := []) dX8_strays_52 rfl lk8_255 (C_X8_reaches r47 (-1 : Int32) (0 : Int32) _) (by decide) (Nat.le_of_ble_eq_true rfl) (by decide) (congrArg Prod.fst s_141) (by decide) (fun _ => rfl) (Nat.le_of_ble_eq_true rfl) rfl (fun r52 s52 e52 => ?_)
      refine ag_iconst (q := 56) (v := 0) dX8_strays_55 rfl (by decide) ?_
      refine ag_istore_4 (q := 58) dX8_strays_56 rfl (Nat.le_of_ble_eq_true rfl) rfl ?_
      exact A_X8_strays_b58 K   FU x1 x2 ((s27 157 53) &&& (((1 : Int32) <<< (x1 &&& 31)) ^^^ (-1 : Int32))) (0 : Int32) s52
    refine ag_aload_0 (q := 9) dX8_strays_8 rfl ?_
    refine ag_getR (q := 12) dX8_strays_9 rfl fl8_61 (by decide) (congrArg Prod.fst s_141) rfl r_141_34 ?_
    refine ag_iload_3 (q := 13) dX8_strays_12 rfl ?_
    refine ag_iconst (q := 14) (v := -1) dX8_strays_13 rfl (by decide) ?_
    refine ag_iast (q := 15) dX8_strays_14 rfl (by decide) s_159 ?_
    refine ag_iinc_3 (q := 18) (d := (1)) dX8_strays_15 rfl (Nat.le_of_ble_eq_true rfl) rfl (by decide) ?_
    refine ag_goto (q := 2) dX8_strays_18 rfl ?_
    exact ih x1 x2 (x3 + (1)) (up σ 159 x3.toNatClampNeg (-1 : Int32))
def J_X8_strays (a1 : Int32) (a2 : Int32) (σ : Sg) : Option (Unit × Sg) :=
  (J_X8_strays_b2   FU a1 a2 (0 : Int32) σ)
set_option maxHeartbeats 4000000 in
theorem A_X8_strays (K : KT) (a1 : Int32) (a2 : Int32) (σ : Sg) : AG K mX8_strays (fun a : Unit × Sg => (none, NT, R0, a.2)) (J_X8_strays a1 a2 σ) 0 [some (.ref 141), some (.int a1), some (.int a2), none, none, none, none, none] [] σ := by
  unfold J_X8_strays
  refine ag_iconst (q := 1) (v := 0) dX8_strays_0 rfl (by decide) ?_
  refine ag_istore_3 (q := 2) dX8_strays_1 rfl (Nat.le_of_ble_eq_true rfl) rfl ?_
  exact A_X8_strays_b2 K   FU a1 a2 (0 : Int32) σ
theorem C_X8_strays (a1 : Int32) (a2 : Int32) (σ : Sg) : ∀ r s', J_X8_strays a1 a2 σ = some (r, s') → AMc yX8_strays mX8_strays [.ref 141, .int a1, .int a2] NT R0 σ (none, NT, R0, s') := fun r s' e => AMc.of (L := [some (.ref 141), some (.int a1), some (.int a2), none, none, none, none, none]) (by decide) rfl (fun _ => rfl) (fun _ => Nat.le_of_ble_eq_true rfl) (Nat.le_refl _) (fun K => A_X8_strays K a1 a2 σ _ e)
def J_X8_fewest_b137  : Nat → Int32 → Int32 → Sg → Option (Int32 × Sg)
  | 0, _, _, _ => none
  | k + 1, x3, x4, σ =>
    (if inb x4 72 = true then (if (σ 159 x4.toNatClampNeg) ≤ (x3 + (1 : Int32)) then (if inb x4 72 = true then (some ((σ 161 x4.toNatClampNeg), σ)) else none) else (if inb x4 72 = true then (J_X8_fewest_b137   k x3 (σ 160 x4.toNatClampNeg) σ) else none)) else none)
set_option maxHeartbeats 4000000 in
theorem A_X8_fewest_b137 (K : KT)  : ∀ (k : Nat) (x3 : Int32) (x4 : Int32) (σ : Sg), AG K mX8_fewest (fun a : Int32 × Sg => (some (.int a.1), NT, R0, a.2)) (J_X8_fewest_b137   k x3 x4 σ) 137 [some (.ref 141), none, none, some (.int x3), some (.int x4), none] [] σ := by
  intro k
  induction k with
  | zero => intro x3 x4 σ; exact ag_none
  | succ k ih =>
    intro x3 x4 σ
    rw [J_X8_fewest_b137]
    refine ag_aload_0 (q := 138) dX8_fewest_137 rfl ?_
    refine ag_getR (q := 141) dX8_fewest_138 rfl fl8_61 (by decide) (congrArg Prod.fst s_141) rfl r_141_34 ?_
    refine ag_iload_4 (q := 143) dX8_fewest_141 rfl ?_
    refine ag_iald (q := 144) dX8_fewest_143 rfl (by decide) s_159 ?_
    refine ag_iload_3 (q := 145) dX8_fewest_144 rfl ?_
    refine ag_iconst (q := 146) (v := 1) dX8_fewest_145 rfl (by decide) ?_
    refine ag_iadd (q := 147) dX8_fewest_146 rfl ?_
    refine ag_icmp_le (tgt := 162) (q := 150) dX8_fewest_147 rfl rfl ?_ ?_
    · refine ag_aload_0 (q := 163) dX8_fewest_162 rfl ?_
      refine ag_getR (q := 166) dX8_fewest_163 rfl fl8_67 (by decide) (congrArg Prod.fst s_141) rfl r_141_36 ?_
      refine ag_iload_4 (q := 168) dX8_fewest_166 rfl ?_
      refine ag_iald (q := 169) dX8_fewest_168 rfl (by decide) s_161 ?_
      exact ag_iret dX8_fewest_169 rfl rfl
    refine ag_aload_0 (q := 151) dX8_fewest_150 rfl ?_
    refine ag_getR (q := 154) dX8_fewest_151 rfl fl8_64 (by decide) (congrArg Prod.fst s_141) rfl r_141_35 ?_
    refine ag_iload_4 (q := 156) dX8_fewest_154 rfl ?_
    refine ag_iald (q := 157) dX8_fewest_156 rfl (by decide) s_160 ?_
    refine ag_istore_4 (q := 159) dX8_fewest_157 rfl (Nat.le_of_ble_eq_true rfl) rfl ?_
    refine ag_goto (q := 137) dX8_fewest_159 rfl ?_
    exact ih x3 (σ 160 x4.toNatClampNeg) σ
def J_X8_fewest_b59  : Nat → Int32 → Int32 → Int32 → Int32 → Sg → Option (Int32 × Sg)
  | 0, _, _, _, _, _ => none
  | k + 1, x2, x3, x4, x5, σ =>
    (if x5 < 0 then (if 0 ≤ x4 then (if inb x4 72 = true then (if x3 < 0 then (if 0 ≤ x3 then (some ((-4 : Int32), σ)) else (some ((σ 159 x4.toNatClampNeg), σ))) else (if x3 < (σ 159 x4.toNatClampNeg) then (J_X8_fewest_b137   FU x3 x4 σ) else (if 0 ≤ x3 then (some ((-4 : Int32), σ)) else (some ((σ 159 x4.toNatClampNeg), σ))))) else none) else (some ((-4 : Int32), σ))) else (if inb x5 72 = true then (if (rmI (σ 158 x5.toNatClampNeg) (36 : Int32)) = x2 then (if inb x5 72 = true then (J_X8_fewest_b59   k x2 x3 (σ 158 x5.toNatClampNeg) (x5 + (-1)) σ) else none) else (J_X8_fewest_b59   k x2 x3 x4 (x5 + (-1)) σ)) else none))
set_option maxHeartbeats 4000000 in
theorem A_X8_fewest_b59 (K : KT)  : ∀ (k : Nat) (x2 : Int32) (x3 : Int32) (x4 : Int32) (x5 : Int32) (σ : Sg), AG K mX8_fewest (fun a : Int32 × Sg => (some (.int a.1), NT, R0, a.2)) (J_X8_fewest_b59   k x2 x3 x4 x5 σ) 59 [some (.ref 141), none, some (.int x2), some (.int x3), some (.int x4), some (.int x5)] [] σ := by
  intro k
  induction k with
  | zero => intro x2 x3 x4 x5 σ; exact ag_none
  | succ k ih =>
    intro x2 x3 x4 x5 σ
    rw [J_X8_fewest_b59]
    refine ag_iload_5 (q := 61) dX8_fewest_59 rfl ?_
    refine ag_if_lt (tgt := 98) (q := 64) dX8_fewest_61 rfl rfl ?_ ?_
    · refine ag_iload_4 (q := 100) dX8_fewest_98 rfl ?_
      refine ag_if_ge (tgt := 106) (q := 103) dX8_fewest_100 rfl rfl ?_ ?_
      · refine ag_aload_0 (q := 107) dX8_fewest_106 rfl ?_
        refine ag_getR (q := 110) dX8_fewest_107 rfl fl8_61 (by decide) (congrArg Prod.fst s_141) rfl r_141_34 ?_
        refine ag_iload_4 (q := 112) dX8_fewest_110 rfl ?_
        refine ag_iald (q := 113) dX8_fewest_112 rfl (by decide) s_159 ?_
        refine ag_istore_5 (q := 115) dX8_fewest_113 rfl (Nat.le_of_ble_eq_true rfl) rfl ?_
        refine ag_iload_3 (q := 116) dX8_fewest_115 rfl ?_
        refine ag_if_lt (tgt := 125) (q := 119) dX8_fewest_116 rfl rfl ?_ ?_
        · refine ag_iload_3 (q := 126) dX8_fewest_125 rfl ?_
          refine ag_if_ge (tgt := 134) (q := 129) dX8_fewest_126 rfl rfl ?_ ?_
          · refine ag_bipush (q := 136) (v := -4) dX8_fewest_134 rfl (by decide) ?_
            exact ag_iret dX8_fewest_136 rfl rfl
          refine ag_iload_5 (q := 131) dX8_fewest_129 rfl ?_
          refine ag_goto (q := 136) dX8_fewest_131 rfl ?_
          exact ag_iret dX8_fewest_136 rfl rfl
        refine ag_iload_3 (q := 120) dX8_fewest_119 rfl ?_
        refine ag_iload_5 (q := 122) dX8_fewest_120 rfl ?_
        refine ag_icmp_lt (tgt := 137) (q := 125) dX8_fewest_122 rfl rfl ?_ ?_
        · refine ag_kill_2 ?_
          refine ag_kill_5 ?_
          exact A_X8_fewest_b137 K   FU x3 x4 σ
        refine ag_iload_3 (q := 126) dX8_fewest_125 rfl ?_
        refine ag_if_ge (tgt := 134) (q := 129) dX8_fewest_126 rfl rfl ?_ ?_
        · refine ag_bipush (q := 136) (v := -4) dX8_fewest_134 rfl (by decide) ?_
          exact ag_iret dX8_fewest_136 rfl rfl
        refine ag_iload_5 (q := 131) dX8_fewest_129 rfl ?_
        refine ag_goto (q := 136) dX8_fewest_131 rfl ?_
        exact ag_iret dX8_fewest_136 rfl rfl
      refine ag_bipush (q := 105) (v := -4) dX8_fewest_103 rfl (by decide) ?_
      exact ag_iret dX8_fewest_105 rfl rfl
    refine ag_aload_0 (q := 65) dX8_fewest_64 rfl ?_
    refine ag_getR (q := 68) dX8_fewest_65 rfl fl8_58 (by decide) (congrArg Prod.fst s_141) rfl r_141_33 ?_
    refine ag_iload_5 (q := 70) dX8_fewest_68 rfl ?_
    refine ag_iald (q := 71) dX8_fewest_70 rfl (by decide) s_158 ?_
    refine ag_bipush (q := 73) (v := 36) dX8_fewest_71 rfl (by decide) ?_
    refine ag_iremK (q := 74) dX8_fewest_73 rfl (by decide) ?_
    refine ag_iload_2 (q := 75) dX8_fewest_74 rfl ?_
    refine ag_icmp_ne (tgt := 88) (q := 78) dX8_fewest_75 rfl rfl ?_ ?_
    · refine ag_iload_4 (q := 90) dX8_fewest_88 rfl ?_
      refine ag_istore_4 (q := 92) dX8_fewest_90 rfl (Nat.le_of_ble_eq_true rfl) rfl ?_
      refine ag_iinc_5 (q := 95) (d := (-1)) dX8_fewest_92 rfl (Nat.le_of_ble_eq_true rfl) rfl (by decide) ?_
      refine ag_goto (q := 59) dX8_fewest_95 rfl ?_
      exact ih x2 x3 x4 (x5 + (-1)) σ
    refine ag_aload_0 (q := 79) dX8_fewest_78 rfl ?_
    refine ag_getR (q := 82) dX8_fewest_79 rfl fl8_58 (by decide) (congrArg Prod.fst s_141) rfl r_141_33 ?_
    refine ag_iload_5 (q := 84) dX8_fewest_82 rfl ?_
    refine ag_iald (q := 85) dX8_fewest_84 rfl (by decide) s_158 ?_
    refine ag_goto (q := 90) dX8_fewest_85 rfl ?_
    refine ag_istore_4 (q := 92) dX8_fewest_90 rfl (Nat.le_of_ble_eq_true rfl) rfl ?_
    refine ag_iinc_5 (q := 95) (d := (-1)) dX8_fewest_92 rfl (Nat.le_of_ble_eq_true rfl) rfl (by decide) ?_
    refine ag_goto (q := 59) dX8_fewest_95 rfl ?_
    exact ih x2 x3 (σ 158 x5.toNatClampNeg) (x5 + (-1)) σ
def J_X8_fewest (a1 : Int32) (a2 : Int32) (a3 : Int32) (σ : Sg) : Option (Int32 × Sg) :=
  (bd1 (J_X8_isBeast a1 σ) fun r2 => (if r2 = 0 then (some ((-1 : Int32), σ)) else (bd1 (J_X8_isSquare a2 σ) fun r10 => (if r10 = 0 then (some ((-1 : Int32), σ)) else (if (-1 : Int32) ≤ a3 then (if inb ((37 : Int32) + a1) 54 = true then (if (σ 146 ((37 : Int32) + a1).toNatClampNeg) = (36 : Int32) then (some ((-2 : Int32), σ)) else (bd2 (J_X8_strays a1 (12 : Int32) σ) fun r44 s44 => (J_X8_fewest_b59   FU a2 a3 (-4 : Int32) ((s44 141 37) - (1 : Int32)) s44))) else none) else (some ((-1 : Int32), σ)))))))
set_option maxHeartbeats 4000000 in
theorem A_X8_fewest (K : KT) (a1 : Int32) (a2 : Int32) (a3 : Int32) (σ : Sg) : AG K mX8_fewest (fun a : Int32 × Sg => (some (.int a.1), NT, R0, a.2)) (J_X8_fewest a1 a2 a3 σ) 0 [some (.ref 141), some (.int a1), some (.int a2), some (.int a3), none, none] [] σ := by
  unfold J_X8_fewest
  refine ag_aload_0 (q := 1) dX8_fewest_0 rfl ?_
  refine ag_iload_1 (q := 2) dX8_fewest_1 rfl ?_
  refine ag_callV_pI (q := 5) (av := [.int _]) (rest := []) dX8_fewest_2 rfl lk8_231 (C_X8_isBeast a1 _) (by decide) (Nat.le_of_ble_eq_true rfl) (by decide) (congrArg Prod.fst s_141) (by decide) (fun _ => rfl) (Nat.le_of_ble_eq_true rfl) rfl (fun r2 e2 => ?_)
  refine ag_if_eq (tgt := 21) (q := 8) dX8_fewest_5 rfl rfl ?_ ?_
  · refine ag_iconst (q := 22) (v := -1) dX8_fewest_21 rfl (by decide) ?_
    exact ag_iret dX8_fewest_22 rfl rfl
  refine ag_aload_0 (q := 9) dX8_fewest_8 rfl ?_
  refine ag_iload_2 (q := 10) dX8_fewest_9 rfl ?_
  refine ag_callV_pI (q := 13) (av := [.int _]) (rest := []) dX8_fewest_10 rfl lk8_225 (C_X8_isSquare a2 _) (by decide) (Nat.le_of_ble_eq_true rfl) (by decide) (congrArg Prod.fst s_141) (by decide) (fun _ => rfl) (Nat.le_of_ble_eq_true rfl) rfl (fun r10 e10 => ?_)
  refine ag_if_eq (tgt := 21) (q := 16) dX8_fewest_13 rfl rfl ?_ ?_
  · refine ag_iconst (q := 22) (v := -1) dX8_fewest_21 rfl (by decide) ?_
    exact ag_iret dX8_fewest_22 rfl rfl
  refine ag_iload_3 (q := 17) dX8_fewest_16 rfl ?_
  refine ag_iconst (q := 18) (v := -1) dX8_fewest_17 rfl (by decide) ?_
  refine ag_icmp_ge (tgt := 23) (q := 21) dX8_fewest_18 rfl rfl ?_ ?_
  · refine ag_aload_0 (q := 24) dX8_fewest_23 rfl ?_
    refine ag_getR (q := 27) dX8_fewest_24 rfl fl8_22 (by decide) (congrArg Prod.fst s_141) rfl r_141_10 ?_
    refine ag_bipush (q := 29) (v := 37) dX8_fewest_27 rfl (by decide) ?_
    refine ag_iload_1 (q := 30) dX8_fewest_29 rfl ?_
    refine ag_iadd (q := 31) dX8_fewest_30 rfl ?_
    refine ag_iald (q := 32) dX8_fewest_31 rfl (by decide) s_146 ?_
    refine ag_bipush (q := 34) (v := 36) dX8_fewest_32 rfl (by decide) ?_
    refine ag_icmp_ne (tgt := 40) (q := 37) dX8_fewest_34 rfl rfl ?_ ?_
    · refine ag_aload_0 (q := 41) dX8_fewest_40 rfl ?_
      refine ag_iload_1 (q := 42) dX8_fewest_41 rfl ?_
      refine ag_bipush (q := 44) (v := 12) dX8_fewest_42 rfl (by decide) ?_
      refine ag_callV_mU (q := 47) (av := [.int _, .int _]) (rest := []) dX8_fewest_44 rfl lk8_258 (C_X8_strays a1 (12 : Int32) _) (by decide) (Nat.le_of_ble_eq_true rfl) (by decide) (congrArg Prod.fst s_141) (by decide) (fun _ => rfl) (Nat.le_of_ble_eq_true rfl) rfl (fun r44 s44 e44 => ?_)
      refine ag_bipush (q := 49) (v := -4) dX8_fewest_47 rfl (by decide) ?_
      refine ag_istore_4 (q := 51) dX8_fewest_49 rfl (Nat.le_of_ble_eq_true rfl) rfl ?_
      refine ag_aload_0 (q := 52) dX8_fewest_51 rfl ?_
      refine ag_getI (q := 55) dX8_fewest_52 rfl fl8_249 (by decide) (congrArg Prod.fst s_141) rfl ?_
      refine ag_iconst (q := 56) (v := 1) dX8_fewest_55 rfl (by decide) ?_
      refine ag_isub (q := 57) dX8_fewest_56 rfl ?_
      refine ag_istore_5 (q := 59) dX8_fewest_57 rfl (Nat.le_of_ble_eq_true rfl) rfl ?_
      refine ag_kill_1 ?_
      exact A_X8_fewest_b59 K   FU a2 a3 (-4 : Int32) ((s44 141 37) - (1 : Int32)) s44
    refine ag_bipush (q := 39) (v := -2) dX8_fewest_37 rfl (by decide) ?_
    exact ag_iret dX8_fewest_39 rfl rfl
  refine ag_iconst (q := 22) (v := -1) dX8_fewest_21 rfl (by decide) ?_
  exact ag_iret dX8_fewest_22 rfl rfl
theorem C_X8_fewest (a1 : Int32) (a2 : Int32) (a3 : Int32) (σ : Sg) : ∀ r s', J_X8_fewest a1 a2 a3 σ = some (r, s') → AMc yX8_fewest mX8_fewest [.ref 141, .int a1, .int a2, .int a3] NT R0 σ (some (.int r), NT, R0, s') := fun r s' e => AMc.of (L := [some (.ref 141), some (.int a1), some (.int a2), some (.int a3), none, none]) (by decide) rfl (fun _ => rfl) (fun _ => Nat.le_of_ble_eq_true rfl) (Nat.le_refl _) (fun K => A_X8_fewest K a1 a2 a3 σ _ e)
def J_X8_stray_b48  : Nat → Int32 → Int32 → Sg → Option (Int32 × Sg)
  | 0, _, _, _ => none
  | k + 1, x3, x4, σ =>
    (if (36 : Int32) ≤ x4 then (some (x3, σ)) else (if inb x4 72 = true then (if 0 ≤ (σ 159 x4.toNatClampNeg) then (J_X8_stray_b48   k (x3 + (1 : Int32)) (x4 + (1)) σ) else (if inb (x4 + (36 : Int32)) 72 = true then (if (σ 159 (x4 + (36 : Int32)).toNatClampNeg) < 0 then (J_X8_stray_b48   k (x3 + (0 : Int32)) (x4 + (1)) σ) else (J_X8_stray_b48   k (x3 + (1 : Int32)) (x4 + (1)) σ)) else none)) else none))
set_option maxHeartbeats 4000000 in
theorem A_X8_stray_b48 (K : KT)  : ∀ (k : Nat) (x3 : Int32) (x4 : Int32) (σ : Sg), AG K mX8_stray (fun a : Int32 × Sg => (some (.int a.1), NT, R0, a.2)) (J_X8_stray_b48   k x3 x4 σ) 48 [some (.ref 141), none, none, some (.int x3), some (.int x4)] [] σ := by
  intro k
  induction k with
  | zero => intro x3 x4 σ; exact ag_none
  | succ k ih =>
    intro x3 x4 σ
    rw [J_X8_stray_b48]
    refine ag_iload_4 (q := 50) dX8_stray_48 rfl ?_
    refine ag_bipush (q := 52) (v := 36) dX8_stray_50 rfl (by decide) ?_
    refine ag_icmp_ge (tgt := 92) (q := 55) dX8_stray_52 rfl rfl ?_ ?_
    · refine ag_iload_3 (q := 93) dX8_stray_92 rfl ?_
      exact ag_iret dX8_stray_93 rfl rfl
    refine ag_iload_3 (q := 56) dX8_stray_55 rfl ?_
    refine ag_aload_0 (q := 57) dX8_stray_56 rfl ?_
    refine ag_getR (q := 60) dX8_stray_57 rfl fl8_61 (by decide) (congrArg Prod.fst s_141) rfl r_141_34 ?_
    refine ag_iload_4 (q := 62) dX8_stray_60 rfl ?_
    refine ag_iald (q := 63) dX8_stray_62 rfl (by decide) s_159 ?_
    refine ag_if_ge (tgt := 79) (q := 66) dX8_stray_63 rfl rfl ?_ ?_
    · refine ag_iconst (q := 80) (v := 1) dX8_stray_79 rfl (by decide) ?_
      refine ag_goto (q := 84) dX8_stray_80 rfl ?_
      refine ag_iadd (q := 85) dX8_stray_84 rfl ?_
      refine ag_istore_3 (q := 86) dX8_stray_85 rfl (Nat.le_of_ble_eq_true rfl) rfl ?_
      refine ag_iinc_4 (q := 89) (d := (1)) dX8_stray_86 rfl (Nat.le_of_ble_eq_true rfl) rfl (by decide) ?_
      refine ag_goto (q := 48) dX8_stray_89 rfl ?_
      exact ih (x3 + (1 : Int32)) (x4 + (1)) σ
    refine ag_aload_0 (q := 67) dX8_stray_66 rfl ?_
    refine ag_getR (q := 70) dX8_stray_67 rfl fl8_61 (by decide) (congrArg Prod.fst s_141) rfl r_141_34 ?_
    refine ag_iload_4 (q := 72) dX8_stray_70 rfl ?_
    refine ag_bipush (q := 74) (v := 36) dX8_stray_72 rfl (by decide) ?_
    refine ag_iadd (q := 75) dX8_stray_74 rfl ?_
    refine ag_iald (q := 76) dX8_stray_75 rfl (by decide) s_159 ?_
    refine ag_if_lt (tgt := 83) (q := 79) dX8_stray_76 rfl rfl ?_ ?_
    · refine ag_iconst (q := 84) (v := 0) dX8_stray_83 rfl (by decide) ?_
      refine ag_iadd (q := 85) dX8_stray_84 rfl ?_
      refine ag_istore_3 (q := 86) dX8_stray_85 rfl (Nat.le_of_ble_eq_true rfl) rfl ?_
      refine ag_iinc_4 (q := 89) (d := (1)) dX8_stray_86 rfl (Nat.le_of_ble_eq_true rfl) rfl (by decide) ?_
      refine ag_goto (q := 48) dX8_stray_89 rfl ?_
      exact ih (x3 + (0 : Int32)) (x4 + (1)) σ
    refine ag_iconst (q := 80) (v := 1) dX8_stray_79 rfl (by decide) ?_
    refine ag_goto (q := 84) dX8_stray_80 rfl ?_
    refine ag_iadd (q := 85) dX8_stray_84 rfl ?_
    refine ag_istore_3 (q := 86) dX8_stray_85 rfl (Nat.le_of_ble_eq_true rfl) rfl ?_
    refine ag_iinc_4 (q := 89) (d := (1)) dX8_stray_86 rfl (Nat.le_of_ble_eq_true rfl) rfl (by decide) ?_
    refine ag_goto (q := 48) dX8_stray_89 rfl ?_
    exact ih (x3 + (1 : Int32)) (x4 + (1)) σ
def J_X8_stray (a1 : Int32) (a2 : Int32) (σ : Sg) : Option (Int32 × Sg) :=
  (bd1 (J_X8_isBeast a1 σ) fun r2 => (if r2 = 0 then (some ((-1 : Int32), σ)) else (bd1 (J_X8_in a2 (0 : Int32) (6 : Int32) σ) fun r12 => (if r12 = 0 then (some ((-1 : Int32), σ)) else (if inb ((37 : Int32) + a1) 54 = true then (if (σ 146 ((37 : Int32) + a1).toNatClampNeg) = (36 : Int32) then (some ((-2 : Int32), σ)) else (bd2 (J_X8_strays a1 a2 σ) fun r40 s40 => (J_X8_stray_b48   FU (0 : Int32) (0 : Int32) s40))) else none)))))
set_option maxHeartbeats 4000000 in
theorem A_X8_stray (K : KT) (a1 : Int32) (a2 : Int32) (σ : Sg) : AG K mX8_stray (fun a : Int32 × Sg => (some (.int a.1), NT, R0, a.2)) (J_X8_stray a1 a2 σ) 0 [some (.ref 141), some (.int a1), some (.int a2), none, none] [] σ := by
  unfold J_X8_stray
  refine ag_aload_0 (q := 1) dX8_stray_0 rfl ?_
  refine ag_iload_1 (q := 2) dX8_stray_1 rfl ?_
  refine ag_callV_pI (q := 5) (av := [.int _]) (rest := []) dX8_stray_2 rfl lk8_231 (C_X8_isBeast a1 _) (by decide) (Nat.le_of_ble_eq_true rfl) (by decide) (congrArg Prod.fst s_141) (by decide) (fun _ => rfl) (Nat.le_of_ble_eq_true rfl) rfl (fun r2 e2 => ?_)
  refine ag_if_eq (tgt := 18) (q := 8) dX8_stray_5 rfl rfl ?_ ?_
  · refine ag_iconst (q := 19) (v := -1) dX8_stray_18 rfl (by decide) ?_
    exact ag_iret dX8_stray_19 rfl rfl
  refine ag_iload_2 (q := 9) dX8_stray_8 rfl ?_
  refine ag_iconst (q := 10) (v := 0) dX8_stray_9 rfl (by decide) ?_
  refine ag_bipush (q := 12) (v := 6) dX8_stray_10 rfl (by decide) ?_
  refine ag_callS_pI (q := 15) (av := [.int _, .int _, .int _]) (rest := []) dX8_stray_12 rfl lk8_115 (C_X8_in a2 (0 : Int32) (6 : Int32) _) (by decide) (Nat.le_of_ble_eq_true rfl) (fun _ => rfl) (Nat.le_of_ble_eq_true rfl) rfl (fun r12 e12 => ?_)
  refine ag_if_ne (tgt := 20) (q := 18) dX8_stray_15 rfl rfl ?_ ?_
  · refine ag_aload_0 (q := 21) dX8_stray_20 rfl ?_
    refine ag_getR (q := 24) dX8_stray_21 rfl fl8_22 (by decide) (congrArg Prod.fst s_141) rfl r_141_10 ?_
    refine ag_bipush (q := 26) (v := 37) dX8_stray_24 rfl (by decide) ?_
    refine ag_iload_1 (q := 27) dX8_stray_26 rfl ?_
    refine ag_iadd (q := 28) dX8_stray_27 rfl ?_
    refine ag_iald (q := 29) dX8_stray_28 rfl (by decide) s_146 ?_
    refine ag_bipush (q := 31) (v := 36) dX8_stray_29 rfl (by decide) ?_
    refine ag_icmp_ne (tgt := 37) (q := 34) dX8_stray_31 rfl rfl ?_ ?_
    · refine ag_aload_0 (q := 38) dX8_stray_37 rfl ?_
      refine ag_iload_1 (q := 39) dX8_stray_38 rfl ?_
      refine ag_iload_2 (q := 40) dX8_stray_39 rfl ?_
      refine ag_callV_mU (q := 43) (av := [.int _, .int _]) (rest := []) dX8_stray_40 rfl lk8_258 (C_X8_strays a1 a2 _) (by decide) (Nat.le_of_ble_eq_true rfl) (by decide) (congrArg Prod.fst s_141) (by decide) (fun _ => rfl) (Nat.le_of_ble_eq_true rfl) rfl (fun r40 s40 e40 => ?_)
      refine ag_iconst (q := 44) (v := 0) dX8_stray_43 rfl (by decide) ?_
      refine ag_istore_3 (q := 45) dX8_stray_44 rfl (Nat.le_of_ble_eq_true rfl) rfl ?_
      refine ag_iconst (q := 46) (v := 0) dX8_stray_45 rfl (by decide) ?_
      refine ag_istore_4 (q := 48) dX8_stray_46 rfl (Nat.le_of_ble_eq_true rfl) rfl ?_
      refine ag_kill_1 ?_
      refine ag_kill_2 ?_
      exact A_X8_stray_b48 K   FU (0 : Int32) (0 : Int32) s40
    refine ag_bipush (q := 36) (v := -2) dX8_stray_34 rfl (by decide) ?_
    exact ag_iret dX8_stray_36 rfl rfl
  refine ag_iconst (q := 19) (v := -1) dX8_stray_18 rfl (by decide) ?_
  exact ag_iret dX8_stray_19 rfl rfl
theorem C_X8_stray (a1 : Int32) (a2 : Int32) (σ : Sg) : ∀ r s', J_X8_stray a1 a2 σ = some (r, s') → AMc yX8_stray mX8_stray [.ref 141, .int a1, .int a2] NT R0 σ (some (.int r), NT, R0, s') := fun r s' e => AMc.of (L := [some (.ref 141), some (.int a1), some (.int a2), none, none]) (by decide) rfl (fun _ => rfl) (fun _ => Nat.le_of_ble_eq_true rfl) (Nat.le_refl _) (fun K => A_X8_stray K a1 a2 σ _ e)
def J_X8_nextDrive_b4  : Nat → Int32 → Int32 → Sg → Option (Int32 × Sg)
  | 0, _, _, _ => none
  | k + 1, x1, x2, σ =>
    (if ((10 : Int32) * (σ 141 3)) ≤ x2 then (if (99 : Int32) ≤ x1 then (some ((100 : Int32), σ)) else (some ((99 : Int32), σ))) else (bd2 (J_X8_canDrive x2 σ) fun r17 s17 => (if r17 = 0 then (J_X8_nextDrive_b4   k x1 (x2 + (1)) s17) else (some (x2, s17)))))
set_option maxHeartbeats 4000000 in
theorem A_X8_nextDrive_b4 (K : KT)  : ∀ (k : Nat) (x1 : Int32) (x2 : Int32) (σ : Sg), AG K mX8_nextDrive (fun a : Int32 × Sg => (some (.int a.1), NT, R0, a.2)) (J_X8_nextDrive_b4   k x1 x2 σ) 4 [some (.ref 141), some (.int x1), some (.int x2)] [] σ := by
  intro k
  induction k with
  | zero => intro x1 x2 σ; exact ag_none
  | succ k ih =>
    intro x1 x2 σ
    rw [J_X8_nextDrive_b4]
    refine ag_iload_2 (q := 5) dX8_nextDrive_4 rfl ?_
    refine ag_bipush (q := 7) (v := 10) dX8_nextDrive_5 rfl (by decide) ?_
    refine ag_aload_0 (q := 8) dX8_nextDrive_7 rfl ?_
    refine ag_getI (q := 11) dX8_nextDrive_8 rfl fl8_112 (by decide) (congrArg Prod.fst s_141) rfl ?_
    refine ag_imul (q := 12) dX8_nextDrive_11 rfl ?_
    refine ag_icmp_ge (tgt := 31) (q := 15) dX8_nextDrive_12 rfl rfl ?_ ?_
    · refine ag_iload_1 (q := 32) dX8_nextDrive_31 rfl ?_
      refine ag_bipush (q := 34) (v := 99) dX8_nextDrive_32 rfl (by decide) ?_
      refine ag_icmp_ge (tgt := 42) (q := 37) dX8_nextDrive_34 rfl rfl ?_ ?_
      · refine ag_bipush (q := 44) (v := 100) dX8_nextDrive_42 rfl (by decide) ?_
        exact ag_iret dX8_nextDrive_44 rfl rfl
      refine ag_bipush (q := 39) (v := 99) dX8_nextDrive_37 rfl (by decide) ?_
      refine ag_goto (q := 44) dX8_nextDrive_39 rfl ?_
      exact ag_iret dX8_nextDrive_44 rfl rfl
    refine ag_aload_0 (q := 16) dX8_nextDrive_15 rfl ?_
    refine ag_iload_2 (q := 17) dX8_nextDrive_16 rfl ?_
    refine ag_callV_mI (q := 20) (av := [.int _]) (rest := []) dX8_nextDrive_17 rfl lk8_243 (C_X8_canDrive x2 _) (by decide) (Nat.le_of_ble_eq_true rfl) (by decide) (congrArg Prod.fst s_141) (by decide) (fun _ => rfl) (Nat.le_of_ble_eq_true rfl) rfl (fun r17 s17 e17 => ?_)
    refine ag_if_eq (tgt := 25) (q := 23) dX8_nextDrive_20 rfl rfl ?_ ?_
    · refine ag_iinc_2 (q := 28) (d := (1)) dX8_nextDrive_25 rfl (Nat.le_of_ble_eq_true rfl) rfl (by decide) ?_
      refine ag_goto (q := 4) dX8_nextDrive_28 rfl ?_
      exact ih x1 (x2 + (1)) s17
    refine ag_iload_2 (q := 24) dX8_nextDrive_23 rfl ?_
    exact ag_iret dX8_nextDrive_24 rfl rfl
def J_X8_nextDrive (a1 : Int32) (σ : Sg) : Option (Int32 × Sg) :=
  (J_X8_nextDrive_b4   FU a1 (a1 + (1 : Int32)) σ)
set_option maxHeartbeats 4000000 in
theorem A_X8_nextDrive (K : KT) (a1 : Int32) (σ : Sg) : AG K mX8_nextDrive (fun a : Int32 × Sg => (some (.int a.1), NT, R0, a.2)) (J_X8_nextDrive a1 σ) 0 [some (.ref 141), some (.int a1), none] [] σ := by
  unfold J_X8_nextDrive
  refine ag_iload_1 (q := 1) dX8_nextDrive_0 rfl ?_
  refine ag_iconst (q := 2) (v := 1) dX8_nextDrive_1 rfl (by decide) ?_
  refine ag_iadd (q := 3) dX8_nextDrive_2 rfl ?_
  refine ag_istore_2 (q := 4) dX8_nextDrive_3 rfl (Nat.le_of_ble_eq_true rfl) rfl ?_
  exact A_X8_nextDrive_b4 K   FU a1 (a1 + (1 : Int32)) σ
theorem C_X8_nextDrive (a1 : Int32) (σ : Sg) : ∀ r s', J_X8_nextDrive a1 σ = some (r, s') → AMc yX8_nextDrive mX8_nextDrive [.ref 141, .int a1] NT R0 σ (some (.int r), NT, R0, s') := fun r s' e => AMc.of (L := [some (.ref 141), some (.int a1), none]) (by decide) rfl (fun _ => rfl) (fun _ => Nat.le_of_ble_eq_true rfl) (Nat.le_refl _) (fun K => A_X8_nextDrive K a1 σ _ e)
def J_X8_isWatered_b4  : Nat → Int32 → Int32 → Int32 → Sg → Option Int32
  | 0, _, _, _, _ => none
  | k + 1, x1, x2, x3, σ =>
    (if (σ 141 3) ≤ x3 then (if x2 = 0 ∨ x2 = 1 then some x2 else none) else (if x2 = 0 then (if inb x3 8 = true then (if (σ 144 x3.toNatClampNeg) = x1 then (if inb x3 8 = true then (if (σ 143 x3.toNatClampNeg) = 0 then (if inb ((37 : Int32) + x3) 54 = true then (if (σ 157 ((37 : Int32) + x3).toNatClampNeg) = (σ 141 6) then (J_X8_isWatered_b4   k x1 (1 : Int32) (x3 + (1)) σ) else (J_X8_isWatered_b4   k x1 (0 : Int32) (x3 + (1)) σ)) else none) else (J_X8_isWatered_b4   k x1 (0 : Int32) (x3 + (1)) σ)) else none) else (J_X8_isWatered_b4   k x1 (0 : Int32) (x3 + (1)) σ)) else none) else (J_X8_isWatered_b4   k x1 (1 : Int32) (x3 + (1)) σ)))
set_option maxHeartbeats 4000000 in
theorem A_X8_isWatered_b4 (K : KT)  : ∀ (k : Nat) (x1 : Int32) (x2 : Int32) (x3 : Int32) (σ : Sg), AG K mX8_isWatered (fun a : Int32 => (some (.int a), NT, R0, σ)) (J_X8_isWatered_b4   k x1 x2 x3 σ) 4 [some (.ref 141), some (.int x1), some (.int x2), some (.int x3)] [] σ := by
  intro k
  induction k with
  | zero => intro x1 x2 x3 σ; exact ag_none
  | succ k ih =>
    intro x1 x2 x3 σ
    rw [J_X8_isWatered_b4]
    refine ag_iload_3 (q := 5) dX8_isWatered_4 rfl ?_
    refine ag_aload_0 (q := 6) dX8_isWatered_5 rfl ?_
    refine ag_getI (q := 9) dX8_isWatered_6 rfl fl8_112 (by decide) (congrArg Prod.fst s_141) rfl ?_
    refine ag_icmp_ge (tgt := 63) (q := 12) dX8_isWatered_9 rfl rfl ?_ ?_
    · refine ag_iload_2 (q := 64) dX8_isWatered_63 rfl ?_
      exact ag_zret dX8_isWatered_64 rfl rfl
    refine ag_iload_2 (q := 13) dX8_isWatered_12 rfl ?_
    refine ag_if_ne (tgt := 51) (q := 16) dX8_isWatered_13 rfl rfl ?_ ?_
    · refine ag_iconst (q := 52) (v := 1) dX8_isWatered_51 rfl (by decide) ?_
      refine ag_goto (q := 56) dX8_isWatered_52 rfl ?_
      refine ag_istore_2 (q := 57) dX8_isWatered_56 rfl (Nat.le_of_ble_eq_true rfl) rfl ?_
      refine ag_iinc_3 (q := 60) (d := (1)) dX8_isWatered_57 rfl (Nat.le_of_ble_eq_true rfl) rfl (by decide) ?_
      refine ag_goto (q := 4) dX8_isWatered_60 rfl ?_
      exact ih x1 (1 : Int32) (x3 + (1)) σ
    refine ag_aload_0 (q := 17) dX8_isWatered_16 rfl ?_
    refine ag_getR (q := 20) dX8_isWatered_17 rfl fl8_16 (by decide) (congrArg Prod.fst s_141) rfl r_141_5 ?_
    refine ag_iload_3 (q := 21) dX8_isWatered_20 rfl ?_
    refine ag_iald (q := 22) dX8_isWatered_21 rfl (by decide) s_144 ?_
    refine ag_iload_1 (q := 23) dX8_isWatered_22 rfl ?_
    refine ag_icmp_ne (tgt := 55) (q := 26) dX8_isWatered_23 rfl rfl ?_ ?_
    · refine ag_iconst (q := 56) (v := 0) dX8_isWatered_55 rfl (by decide) ?_
      refine ag_istore_2 (q := 57) dX8_isWatered_56 rfl (Nat.le_of_ble_eq_true rfl) rfl ?_
      refine ag_iinc_3 (q := 60) (d := (1)) dX8_isWatered_57 rfl (Nat.le_of_ble_eq_true rfl) rfl (by decide) ?_
      refine ag_goto (q := 4) dX8_isWatered_60 rfl ?_
      exact ih x1 (0 : Int32) (x3 + (1)) σ
    refine ag_aload_0 (q := 27) dX8_isWatered_26 rfl ?_
    refine ag_getR (q := 30) dX8_isWatered_27 rfl fl8_13 (by decide) (congrArg Prod.fst s_141) rfl r_141_4 ?_
    refine ag_iload_3 (q := 31) dX8_isWatered_30 rfl ?_
    refine ag_iald (q := 32) dX8_isWatered_31 rfl (by decide) s_143 ?_
    refine ag_if_ne (tgt := 55) (q := 35) dX8_isWatered_32 rfl rfl ?_ ?_
    · refine ag_iconst (q := 56) (v := 0) dX8_isWatered_55 rfl (by decide) ?_
      refine ag_istore_2 (q := 57) dX8_isWatered_56 rfl (Nat.le_of_ble_eq_true rfl) rfl ?_
      refine ag_iinc_3 (q := 60) (d := (1)) dX8_isWatered_57 rfl (Nat.le_of_ble_eq_true rfl) rfl (by decide) ?_
      refine ag_goto (q := 4) dX8_isWatered_60 rfl ?_
      exact ih x1 (0 : Int32) (x3 + (1)) σ
    refine ag_aload_0 (q := 36) dX8_isWatered_35 rfl ?_
    refine ag_getR (q := 39) dX8_isWatered_36 rfl fl8_55 (by decide) (congrArg Prod.fst s_141) rfl r_141_31 ?_
    refine ag_bipush (q := 41) (v := 37) dX8_isWatered_39 rfl (by decide) ?_
    refine ag_iload_3 (q := 42) dX8_isWatered_41 rfl ?_
    refine ag_iadd (q := 43) dX8_isWatered_42 rfl ?_
    refine ag_iald (q := 44) dX8_isWatered_43 rfl (by decide) s_157 ?_
    refine ag_aload_0 (q := 45) dX8_isWatered_44 rfl ?_
    refine ag_getI (q := 48) dX8_isWatered_45 rfl fl8_166 (by decide) (congrArg Prod.fst s_141) rfl ?_
    refine ag_icmp_ne (tgt := 55) (q := 51) dX8_isWatered_48 rfl rfl ?_ ?_
    · refine ag_iconst (q := 56) (v := 0) dX8_isWatered_55 rfl (by decide) ?_
      refine ag_istore_2 (q := 57) dX8_isWatered_56 rfl (Nat.le_of_ble_eq_true rfl) rfl ?_
      refine ag_iinc_3 (q := 60) (d := (1)) dX8_isWatered_57 rfl (Nat.le_of_ble_eq_true rfl) rfl (by decide) ?_
      refine ag_goto (q := 4) dX8_isWatered_60 rfl ?_
      exact ih x1 (0 : Int32) (x3 + (1)) σ
    refine ag_iconst (q := 52) (v := 1) dX8_isWatered_51 rfl (by decide) ?_
    refine ag_goto (q := 56) dX8_isWatered_52 rfl ?_
    refine ag_istore_2 (q := 57) dX8_isWatered_56 rfl (Nat.le_of_ble_eq_true rfl) rfl ?_
    refine ag_iinc_3 (q := 60) (d := (1)) dX8_isWatered_57 rfl (Nat.le_of_ble_eq_true rfl) rfl (by decide) ?_
    refine ag_goto (q := 4) dX8_isWatered_60 rfl ?_
    exact ih x1 (1 : Int32) (x3 + (1)) σ
def J_X8_isWatered (a1 : Int32) (σ : Sg) : Option Int32 :=
  (J_X8_isWatered_b4   FU a1 (0 : Int32) (0 : Int32) σ)
set_option maxHeartbeats 4000000 in
theorem A_X8_isWatered (K : KT) (a1 : Int32) (σ : Sg) : AG K mX8_isWatered (fun a : Int32 => (some (.int a), NT, R0, σ)) (J_X8_isWatered a1 σ) 0 [some (.ref 141), some (.int a1), none, none] [] σ := by
  unfold J_X8_isWatered
  refine ag_iconst (q := 1) (v := 0) dX8_isWatered_0 rfl (by decide) ?_
  refine ag_istore_2 (q := 2) dX8_isWatered_1 rfl (Nat.le_of_ble_eq_true rfl) rfl ?_
  refine ag_iconst (q := 3) (v := 0) dX8_isWatered_2 rfl (by decide) ?_
  refine ag_istore_3 (q := 4) dX8_isWatered_3 rfl (Nat.le_of_ble_eq_true rfl) rfl ?_
  exact A_X8_isWatered_b4 K   FU a1 (0 : Int32) (0 : Int32) σ
theorem C_X8_isWatered (a1 : Int32) (σ : Sg) : ∀ r, J_X8_isWatered a1 σ = some r → AMc yX8_isWatered mX8_isWatered [.ref 141, .int a1] NT R0 σ (some (.int r), NT, R0, σ) := fun r e => AMc.of (L := [some (.ref 141), some (.int a1), none, none]) (by decide) rfl (fun _ => rfl) (fun _ => Nat.le_of_ble_eq_true rfl) (Nat.le_refl _) (fun K => A_X8_isWatered K a1 σ _ e)
def J_X8_isSummer_b128  (y24 : Int32 → Int32 → Int32 → Sg → Option (Int32 × Sg)) (x1 : Int32) (x2 : Int32) (x3 : Int32) (w0 : Int32) (σ : Sg) : Option (Int32 × Sg) :=
  (if w0 = (100 : Int32) then (y24 x1 x2 (x3 + (-1)) σ) else (bd1 (J_X8_onMeadow x1 σ) fun r145 => (if inb x3 6 = true then (bd2 (J_X8_goesBy w0 (up σ 163 x3.toNatClampNeg w0)) fun r161 s161 => (bd1 (J_X8_onMeadow x1 s161) fun r166 => (if r166 = r145 then (bd2 (J_X8_copies 162 ((54 : Int32) * (x3 + (1))) 157 (0 : Int32) (54 : Int32) s161) fun r192 s192 => (if (6 : Int32) ≤ (x3 + (1)) then (y24 x1 x2 (x3 + (1)) s192) else (if inb (x3 + (1)) 6 = true then (y24 x1 x2 (x3 + (1)) (up s192 163 (x3 + (1)).toNatClampNeg (-1 : Int32))) else none))) else (y24 x1 x2 x3 s161)))) else none)))
set_option maxHeartbeats 4000000 in
theorem A_X8_isSummer_b128 (K : KT)  (y24 : Int32 → Int32 → Int32 → Sg → Option (Int32 × Sg)) (hy24 : ∀ (x1 : Int32) (x2 : Int32) (x3 : Int32) (σ : Sg), AG K mX8_isSummer (fun a : Int32 × Sg => (some (.int a.1), NT, R0, a.2)) (y24 x1 x2 x3 σ) 24 [some (.ref 141), some (.int x1), some (.int x2), some (.int x3), none, none, none] [] σ) (x1 : Int32) (x2 : Int32) (x3 : Int32) (w0 : Int32) (σ : Sg) : AG K mX8_isSummer (fun a : Int32 × Sg => (some (.int a.1), NT, R0, a.2)) (J_X8_isSummer_b128  y24 x1 x2 x3 w0 σ) 128 [some (.ref 141), some (.int x1), some (.int x2), some (.int x3), none, none, none] [.int w0] σ := by
  unfold J_X8_isSummer_b128
  refine ag_istore_5 (q := 130) dX8_isSummer_128 rfl (Nat.le_of_ble_eq_true rfl) rfl ?_
  refine ag_iload_5 (q := 132) dX8_isSummer_130 rfl ?_
  refine ag_bipush (q := 134) (v := 100) dX8_isSummer_132 rfl (by decide) ?_
  refine ag_icmp_ne (tgt := 143) (q := 137) dX8_isSummer_134 rfl rfl ?_ ?_
  · refine ag_aload_0 (q := 144) dX8_isSummer_143 rfl ?_
    refine ag_iload_1 (q := 145) dX8_isSummer_144 rfl ?_
    refine ag_callV_pI (q := 148) (av := [.int _]) (rest := []) dX8_isSummer_145 rfl lk8_267 (C_X8_onMeadow x1 _) (by decide) (Nat.le_of_ble_eq_true rfl) (by decide) (congrArg Prod.fst s_141) (by decide) (fun _ => rfl) (Nat.le_of_ble_eq_true rfl) rfl (fun r145 e145 => ?_)
    refine ag_istore_6 (q := 150) dX8_isSummer_148 rfl (Nat.le_of_ble_eq_true rfl) rfl ?_
    refine ag_aload_0 (q := 151) dX8_isSummer_150 rfl ?_
    refine ag_getR (q := 154) dX8_isSummer_151 rfl fl8_73 (by decide) (congrArg Prod.fst s_141) rfl r_141_39 ?_
    refine ag_iload_3 (q := 155) dX8_isSummer_154 rfl ?_
    refine ag_iload_5 (q := 157) dX8_isSummer_155 rfl ?_
    refine ag_iast (q := 158) dX8_isSummer_157 rfl (by decide) s_163 ?_
    refine ag_aload_0 (q := 159) dX8_isSummer_158 rfl ?_
    refine ag_iload_5 (q := 161) dX8_isSummer_159 rfl ?_
    refine ag_callV_mU (q := 164) (av := [.int _]) (rest := []) dX8_isSummer_161 rfl lk8_240 (C_X8_goesBy w0 _) (by decide) (Nat.le_of_ble_eq_true rfl) (by decide) (congrArg Prod.fst s_141) (by decide) (fun _ => rfl) (Nat.le_of_ble_eq_true rfl) rfl (fun r161 s161 e161 => ?_)
    refine ag_aload_0 (q := 165) dX8_isSummer_164 rfl ?_
    refine ag_iload_1 (q := 166) dX8_isSummer_165 rfl ?_
    refine ag_callV_pI (q := 169) (av := [.int _]) (rest := []) dX8_isSummer_166 rfl lk8_267 (C_X8_onMeadow x1 _) (by decide) (Nat.le_of_ble_eq_true rfl) (by decide) (congrArg Prod.fst s_141) (by decide) (fun _ => rfl) (Nat.le_of_ble_eq_true rfl) rfl (fun r166 e166 => ?_)
    refine ag_iload_6 (q := 171) dX8_isSummer_169 rfl ?_
    refine ag_icmp_ne (tgt := 208) (q := 174) dX8_isSummer_171 rfl rfl ?_ ?_
    · refine ag_goto (q := 24) dX8_isSummer_208 rfl ?_
      refine ag_kill_5 ?_
      refine ag_kill_6 ?_
      exact hy24 x1 x2 x3 s161
    refine ag_iinc_3 (q := 177) (d := (1)) dX8_isSummer_174 rfl (Nat.le_of_ble_eq_true rfl) rfl (by decide) ?_
    refine ag_aload_0 (q := 178) dX8_isSummer_177 rfl ?_
    refine ag_getR (q := 181) dX8_isSummer_178 rfl fl8_70 (by decide) (congrArg Prod.fst s_141) rfl r_141_38 ?_
    refine ag_bipush (q := 183) (v := 54) dX8_isSummer_181 rfl (by decide) ?_
    refine ag_iload_3 (q := 184) dX8_isSummer_183 rfl ?_
    refine ag_imul (q := 185) dX8_isSummer_184 rfl ?_
    refine ag_aload_0 (q := 186) dX8_isSummer_185 rfl ?_
    refine ag_getR (q := 189) dX8_isSummer_186 rfl fl8_55 (by decide) (congrArg Prod.fst s_141) rfl r_141_31 ?_
    refine ag_iconst (q := 190) (v := 0) dX8_isSummer_189 rfl (by decide) ?_
    refine ag_bipush (q := 192) (v := 54) dX8_isSummer_190 rfl (by decide) ?_
    refine ag_callS_mU (q := 195) (av := [.ref _, .int _, .ref _, .int _, .int _]) (rest := []) dX8_isSummer_192 rfl lk8_162 (C_X8_copies 162 (by decide) ((54 : Int32) * (x3 + (1))) 157 (by decide) (0 : Int32) (54 : Int32) _) (by decide) (Nat.le_of_ble_eq_true rfl) (fun _ => rfl) (Nat.le_of_ble_eq_true rfl) rfl (fun r192 s192 e192 => ?_)
    refine ag_iload_3 (q := 196) dX8_isSummer_195 rfl ?_
    refine ag_bipush (q := 198) (v := 6) dX8_isSummer_196 rfl (by decide) ?_
    refine ag_icmp_ge (tgt := 208) (q := 201) dX8_isSummer_198 rfl rfl ?_ ?_
    · refine ag_goto (q := 24) dX8_isSummer_208 rfl ?_
      refine ag_kill_5 ?_
      refine ag_kill_6 ?_
      exact hy24 x1 x2 (x3 + (1)) s192
    refine ag_aload_0 (q := 202) dX8_isSummer_201 rfl ?_
    refine ag_getR (q := 205) dX8_isSummer_202 rfl fl8_73 (by decide) (congrArg Prod.fst s_141) rfl r_141_39 ?_
    refine ag_iload_3 (q := 206) dX8_isSummer_205 rfl ?_
    refine ag_iconst (q := 207) (v := -1) dX8_isSummer_206 rfl (by decide) ?_
    refine ag_iast (q := 208) dX8_isSummer_207 rfl (by decide) s_163 ?_
    refine ag_goto (q := 24) dX8_isSummer_208 rfl ?_
    refine ag_kill_5 ?_
    refine ag_kill_6 ?_
    exact hy24 x1 x2 (x3 + (1)) (up s192 163 (x3 + (1)).toNatClampNeg (-1 : Int32))
  refine ag_iinc_3 (q := 140) (d := (-1)) dX8_isSummer_137 rfl (Nat.le_of_ble_eq_true rfl) rfl (by decide) ?_
  refine ag_goto (q := 208) dX8_isSummer_140 rfl ?_
  refine ag_goto (q := 24) dX8_isSummer_208 rfl ?_
  refine ag_kill_5 ?_
  exact hy24 x1 x2 (x3 + (-1)) σ
def J_X8_isSummer_b78  (y24 : Int32 → Int32 → Int32 → Sg → Option (Int32 × Sg)) (x1 : Int32) (x2 : Int32) (x3 : Int32) (w0 : Int32) (σ : Sg) : Option (Int32 × Sg) :=
  (if w0 = 0 then (if inb x3 6 = true then (if (σ 163 x3.toNatClampNeg) = (99 : Int32) then (J_X8_isSummer_b128  y24 x1 x2 x3 (100 : Int32) σ) else (if (rmI (σ 157 0) (2 : Int32)) = x1 then (if inb x3 6 = true then (bd2 (J_X8_nextDrive (σ 163 x3.toNatClampNeg) σ) fun r120 s120 => (J_X8_isSummer_b128  y24 x1 x2 x3 r120 s120)) else none) else (J_X8_isSummer_b128  y24 x1 x2 x3 (99 : Int32) σ))) else none) else (J_X8_isSummer_b128  y24 x1 x2 x3 (100 : Int32) σ))
set_option maxHeartbeats 4000000 in
theorem A_X8_isSummer_b78 (K : KT)  (y24 : Int32 → Int32 → Int32 → Sg → Option (Int32 × Sg)) (hy24 : ∀ (x1 : Int32) (x2 : Int32) (x3 : Int32) (σ : Sg), AG K mX8_isSummer (fun a : Int32 × Sg => (some (.int a.1), NT, R0, a.2)) (y24 x1 x2 x3 σ) 24 [some (.ref 141), some (.int x1), some (.int x2), some (.int x3), none, none, none] [] σ) (x1 : Int32) (x2 : Int32) (x3 : Int32) (w0 : Int32) (σ : Sg) : AG K mX8_isSummer (fun a : Int32 × Sg => (some (.int a.1), NT, R0, a.2)) (J_X8_isSummer_b78  y24 x1 x2 x3 w0 σ) 78 [some (.ref 141), some (.int x1), some (.int x2), some (.int x3), none, none, none] [.int w0] σ := by
  unfold J_X8_isSummer_b78
  refine ag_istore_4 (q := 80) dX8_isSummer_78 rfl (Nat.le_of_ble_eq_true rfl) rfl ?_
  refine ag_iload_4 (q := 82) dX8_isSummer_80 rfl ?_
  refine ag_if_ne (tgt := 96) (q := 85) dX8_isSummer_82 rfl rfl ?_ ?_
  · refine ag_bipush (q := 98) (v := 100) dX8_isSummer_96 rfl (by decide) ?_
    refine ag_goto (q := 128) dX8_isSummer_98 rfl ?_
    refine ag_kill_4 ?_
    exact A_X8_isSummer_b128 K  y24 hy24 x1 x2 x3 (100 : Int32) σ
  refine ag_aload_0 (q := 86) dX8_isSummer_85 rfl ?_
  refine ag_getR (q := 89) dX8_isSummer_86 rfl fl8_73 (by decide) (congrArg Prod.fst s_141) rfl r_141_39 ?_
  refine ag_iload_3 (q := 90) dX8_isSummer_89 rfl ?_
  refine ag_iald (q := 91) dX8_isSummer_90 rfl (by decide) s_163 ?_
  refine ag_bipush (q := 93) (v := 99) dX8_isSummer_91 rfl (by decide) ?_
  refine ag_icmp_ne (tgt := 101) (q := 96) dX8_isSummer_93 rfl rfl ?_ ?_
  · refine ag_aload_0 (q := 102) dX8_isSummer_101 rfl ?_
    refine ag_getR (q := 105) dX8_isSummer_102 rfl fl8_55 (by decide) (congrArg Prod.fst s_141) rfl r_141_31 ?_
    refine ag_iconst (q := 106) (v := 0) dX8_isSummer_105 rfl (by decide) ?_
    refine ag_ialdK (q := 107) (k := 0) dX8_isSummer_106 rfl (by decide) s_157 (by decide) (by decide) ?_
    refine ag_iconst (q := 108) (v := 2) dX8_isSummer_107 rfl (by decide) ?_
    refine ag_iremK (q := 109) dX8_isSummer_108 rfl (by decide) ?_
    refine ag_iload_1 (q := 110) dX8_isSummer_109 rfl ?_
    refine ag_icmp_ne (tgt := 126) (q := 113) dX8_isSummer_110 rfl rfl ?_ ?_
    · refine ag_bipush (q := 128) (v := 99) dX8_isSummer_126 rfl (by decide) ?_
      refine ag_kill_4 ?_
      exact A_X8_isSummer_b128 K  y24 hy24 x1 x2 x3 (99 : Int32) σ
    refine ag_aload_0 (q := 114) dX8_isSummer_113 rfl ?_
    refine ag_aload_0 (q := 115) dX8_isSummer_114 rfl ?_
    refine ag_getR (q := 118) dX8_isSummer_115 rfl fl8_73 (by decide) (congrArg Prod.fst s_141) rfl r_141_39 ?_
    refine ag_iload_3 (q := 119) dX8_isSummer_118 rfl ?_
    refine ag_iald (q := 120) dX8_isSummer_119 rfl (by decide) s_163 ?_
    refine ag_callV_mI (q := 123) (av := [.int _]) (rest := []) dX8_isSummer_120 rfl lk8_264 (C_X8_nextDrive (σ 163 x3.toNatClampNeg) _) (by decide) (Nat.le_of_ble_eq_true rfl) (by decide) (congrArg Prod.fst s_141) (by decide) (fun _ => rfl) (Nat.le_of_ble_eq_true rfl) rfl (fun r120 s120 e120 => ?_)
    refine ag_goto (q := 128) dX8_isSummer_123 rfl ?_
    refine ag_kill_4 ?_
    exact A_X8_isSummer_b128 K  y24 hy24 x1 x2 x3 r120 s120
  refine ag_bipush (q := 98) (v := 100) dX8_isSummer_96 rfl (by decide) ?_
  refine ag_goto (q := 128) dX8_isSummer_98 rfl ?_
  refine ag_kill_4 ?_
  exact A_X8_isSummer_b128 K  y24 hy24 x1 x2 x3 (100 : Int32) σ
def J_X8_isSummer_b24  : Nat → Int32 → Int32 → Int32 → Sg → Option (Int32 × Sg)
  | 0, _, _, _, _ => none
  | k + 1, x1, x2, x3, σ =>
    (if x3 < 0 then (some ((0 : Int32), σ)) else (bd2 (J_X8_copies 157 (0 : Int32) 162 ((54 : Int32) * x3) (54 : Int32) σ) fun r43 s43 => (if x3 = x2 then (bd1 (J_X8_isWatered x1 s43) fun r53 => (if r53 = 0 then (if x3 = x2 then (J_X8_isSummer_b78  (fun x1 x2 x3 σ => J_X8_isSummer_b24   k x1 x2 x3 σ) x1 x2 x3 (1 : Int32) s43) else (bd1 (J_X8_lost  s43) fun r67 => (if r67 = 0 then (J_X8_isSummer_b78  (fun x1 x2 x3 σ => J_X8_isSummer_b24   k x1 x2 x3 σ) x1 x2 x3 (0 : Int32) s43) else (J_X8_isSummer_b78  (fun x1 x2 x3 σ => J_X8_isSummer_b24   k x1 x2 x3 σ) x1 x2 x3 (1 : Int32) s43)))) else (some ((1 : Int32), s43)))) else (if x3 = x2 then (J_X8_isSummer_b78  (fun x1 x2 x3 σ => J_X8_isSummer_b24   k x1 x2 x3 σ) x1 x2 x3 (1 : Int32) s43) else (bd1 (J_X8_lost  s43) fun r67 => (if r67 = 0 then (J_X8_isSummer_b78  (fun x1 x2 x3 σ => J_X8_isSummer_b24   k x1 x2 x3 σ) x1 x2 x3 (0 : Int32) s43) else (J_X8_isSummer_b78  (fun x1 x2 x3 σ => J_X8_isSummer_b24   k x1 x2 x3 σ) x1 x2 x3 (1 : Int32) s43)))))))
set_option maxHeartbeats 4000000 in
theorem A_X8_isSummer_b24 (K : KT)  : ∀ (k : Nat) (x1 : Int32) (x2 : Int32) (x3 : Int32) (σ : Sg), AG K mX8_isSummer (fun a : Int32 × Sg => (some (.int a.1), NT, R0, a.2)) (J_X8_isSummer_b24   k x1 x2 x3 σ) 24 [some (.ref 141), some (.int x1), some (.int x2), some (.int x3), none, none, none] [] σ := by
  intro k
  induction k with
  | zero => intro x1 x2 x3 σ; exact ag_none
  | succ k ih =>
    intro x1 x2 x3 σ
    rw [J_X8_isSummer_b24]
    refine ag_iload_3 (q := 25) dX8_isSummer_24 rfl ?_
    refine ag_if_lt (tgt := 211) (q := 28) dX8_isSummer_25 rfl rfl ?_ ?_
    · refine ag_iconst (q := 212) (v := 0) dX8_isSummer_211 rfl (by decide) ?_
      exact ag_zretK dX8_isSummer_212 rfl (by decide) rfl
    refine ag_aload_0 (q := 29) dX8_isSummer_28 rfl ?_
    refine ag_getR (q := 32) dX8_isSummer_29 rfl fl8_55 (by decide) (congrArg Prod.fst s_141) rfl r_141_31 ?_
    refine ag_iconst (q := 33) (v := 0) dX8_isSummer_32 rfl (by decide) ?_
    refine ag_aload_0 (q := 34) dX8_isSummer_33 rfl ?_
    refine ag_getR (q := 37) dX8_isSummer_34 rfl fl8_70 (by decide) (congrArg Prod.fst s_141) rfl r_141_38 ?_
    refine ag_bipush (q := 39) (v := 54) dX8_isSummer_37 rfl (by decide) ?_
    refine ag_iload_3 (q := 40) dX8_isSummer_39 rfl ?_
    refine ag_imul (q := 41) dX8_isSummer_40 rfl ?_
    refine ag_bipush (q := 43) (v := 54) dX8_isSummer_41 rfl (by decide) ?_
    refine ag_callS_mU (q := 46) (av := [.ref _, .int _, .ref _, .int _, .int _]) (rest := []) dX8_isSummer_43 rfl lk8_162 (C_X8_copies 157 (by decide) (0 : Int32) 162 (by decide) ((54 : Int32) * x3) (54 : Int32) _) (by decide) (Nat.le_of_ble_eq_true rfl) (fun _ => rfl) (Nat.le_of_ble_eq_true rfl) rfl (fun r43 s43 e43 => ?_)
    refine ag_iload_3 (q := 47) dX8_isSummer_46 rfl ?_
    refine ag_iload_2 (q := 48) dX8_isSummer_47 rfl ?_
    refine ag_icmp_ne (tgt := 61) (q := 51) dX8_isSummer_48 rfl rfl ?_ ?_
    · refine ag_iload_3 (q := 62) dX8_isSummer_61 rfl ?_
      refine ag_iload_2 (q := 63) dX8_isSummer_62 rfl ?_
      refine ag_icmp_eq (tgt := 73) (q := 66) dX8_isSummer_63 rfl rfl ?_ ?_
      · refine ag_iconst (q := 74) (v := 1) dX8_isSummer_73 rfl (by decide) ?_
        refine ag_goto (q := 78) dX8_isSummer_74 rfl ?_
        exact A_X8_isSummer_b78 K  (fun x1 x2 x3 σ => J_X8_isSummer_b24   k x1 x2 x3 σ) (fun x1 x2 x3 σ => ih x1 x2 x3 σ) x1 x2 x3 (1 : Int32) s43
      refine ag_aload_0 (q := 67) dX8_isSummer_66 rfl ?_
      refine ag_callV_pI (q := 70) (av := []) (rest := []) dX8_isSummer_67 rfl lk8_222 (C_X8_lost  _) (by decide) (Nat.le_of_ble_eq_true rfl) (by decide) (congrArg Prod.fst s_141) (by decide) (fun _ => rfl) (Nat.le_of_ble_eq_true rfl) rfl (fun r67 e67 => ?_)
      refine ag_if_eq (tgt := 77) (q := 73) dX8_isSummer_70 rfl rfl ?_ ?_
      · refine ag_iconst (q := 78) (v := 0) dX8_isSummer_77 rfl (by decide) ?_
        exact A_X8_isSummer_b78 K  (fun x1 x2 x3 σ => J_X8_isSummer_b24   k x1 x2 x3 σ) (fun x1 x2 x3 σ => ih x1 x2 x3 σ) x1 x2 x3 (0 : Int32) s43
      refine ag_iconst (q := 74) (v := 1) dX8_isSummer_73 rfl (by decide) ?_
      refine ag_goto (q := 78) dX8_isSummer_74 rfl ?_
      exact A_X8_isSummer_b78 K  (fun x1 x2 x3 σ => J_X8_isSummer_b24   k x1 x2 x3 σ) (fun x1 x2 x3 σ => ih x1 x2 x3 σ) x1 x2 x3 (1 : Int32) s43
    refine ag_aload_0 (q := 52) dX8_isSummer_51 rfl ?_
    refine ag_iload_1 (q := 53) dX8_isSummer_52 rfl ?_
    refine ag_callV_pI (q := 56) (av := [.int _]) (rest := []) dX8_isSummer_53 rfl lk8_261 (C_X8_isWatered x1 _) (by decide) (Nat.le_of_ble_eq_true rfl) (by decide) (congrArg Prod.fst s_141) (by decide) (fun _ => rfl) (Nat.le_of_ble_eq_true rfl) rfl (fun r53 e53 => ?_)
    refine ag_if_eq (tgt := 61) (q := 59) dX8_isSummer_56 rfl rfl ?_ ?_
    · refine ag_iload_3 (q := 62) dX8_isSummer_61 rfl ?_
      refine ag_iload_2 (q := 63) dX8_isSummer_62 rfl ?_
      refine ag_icmp_eq (tgt := 73) (q := 66) dX8_isSummer_63 rfl rfl ?_ ?_
      · refine ag_iconst (q := 74) (v := 1) dX8_isSummer_73 rfl (by decide) ?_
        refine ag_goto (q := 78) dX8_isSummer_74 rfl ?_
        exact A_X8_isSummer_b78 K  (fun x1 x2 x3 σ => J_X8_isSummer_b24   k x1 x2 x3 σ) (fun x1 x2 x3 σ => ih x1 x2 x3 σ) x1 x2 x3 (1 : Int32) s43
      refine ag_aload_0 (q := 67) dX8_isSummer_66 rfl ?_
      refine ag_callV_pI (q := 70) (av := []) (rest := []) dX8_isSummer_67 rfl lk8_222 (C_X8_lost  _) (by decide) (Nat.le_of_ble_eq_true rfl) (by decide) (congrArg Prod.fst s_141) (by decide) (fun _ => rfl) (Nat.le_of_ble_eq_true rfl) rfl (fun r67 e67 => ?_)
      refine ag_if_eq (tgt := 77) (q := 73) dX8_isSummer_70 rfl rfl ?_ ?_
      · refine ag_iconst (q := 78) (v := 0) dX8_isSummer_77 rfl (by decide) ?_
        exact A_X8_isSummer_b78 K  (fun x1 x2 x3 σ => J_X8_isSummer_b24   k x1 x2 x3 σ) (fun x1 x2 x3 σ => ih x1 x2 x3 σ) x1 x2 x3 (0 : Int32) s43
      refine ag_iconst (q := 74) (v := 1) dX8_isSummer_73 rfl (by decide) ?_
      refine ag_goto (q := 78) dX8_isSummer_74 rfl ?_
      exact A_X8_isSummer_b78 K  (fun x1 x2 x3 σ => J_X8_isSummer_b24   k x1 x2 x3 σ) (fun x1 x2 x3 σ => ih x1 x2 x3 σ) x1 x2 x3 (1 : Int32) s43
    refine ag_iconst (q := 60) (v := 1) dX8_isSummer_59 rfl (by decide) ?_
    exact ag_zretK dX8_isSummer_60 rfl (by decide) rfl
def J_X8_isSummer (a1 : Int32) (a2 : Int32) (σ : Sg) : Option (Int32 × Sg) :=
  (bd2 (J_X8_copies 162 (0 : Int32) 146 (0 : Int32) (54 : Int32) σ) fun r14 s14 => (J_X8_isSummer_b24   FU a1 a2 (0 : Int32) (up s14 163 0 (-1 : Int32))))
set_option maxHeartbeats 4000000 in
theorem A_X8_isSummer (K : KT) (a1 : Int32) (a2 : Int32) (σ : Sg) : AG K mX8_isSummer (fun a : Int32 × Sg => (some (.int a.1), NT, R0, a.2)) (J_X8_isSummer a1 a2 σ) 0 [some (.ref 141), some (.int a1), some (.int a2), none, none, none, none] [] σ := by
  unfold J_X8_isSummer
  refine ag_iconst (q := 1) (v := 0) dX8_isSummer_0 rfl (by decide) ?_
  refine ag_istore_3 (q := 2) dX8_isSummer_1 rfl (Nat.le_of_ble_eq_true rfl) rfl ?_
  refine ag_aload_0 (q := 3) dX8_isSummer_2 rfl ?_
  refine ag_getR (q := 6) dX8_isSummer_3 rfl fl8_70 (by decide) (congrArg Prod.fst s_141) rfl r_141_38 ?_
  refine ag_iconst (q := 7) (v := 0) dX8_isSummer_6 rfl (by decide) ?_
  refine ag_aload_0 (q := 8) dX8_isSummer_7 rfl ?_
  refine ag_getR (q := 11) dX8_isSummer_8 rfl fl8_22 (by decide) (congrArg Prod.fst s_141) rfl r_141_10 ?_
  refine ag_iconst (q := 12) (v := 0) dX8_isSummer_11 rfl (by decide) ?_
  refine ag_bipush (q := 14) (v := 54) dX8_isSummer_12 rfl (by decide) ?_
  refine ag_callS_mU (q := 17) (av := [.ref _, .int _, .ref _, .int _, .int _]) (rest := []) dX8_isSummer_14 rfl lk8_162 (C_X8_copies 162 (by decide) (0 : Int32) 146 (by decide) (0 : Int32) (54 : Int32) _) (by decide) (Nat.le_of_ble_eq_true rfl) (fun _ => rfl) (Nat.le_of_ble_eq_true rfl) rfl (fun r14 s14 e14 => ?_)
  refine ag_aload_0 (q := 18) dX8_isSummer_17 rfl ?_
  refine ag_getR (q := 21) dX8_isSummer_18 rfl fl8_73 (by decide) (congrArg Prod.fst s_141) rfl r_141_39 ?_
  refine ag_iconst (q := 22) (v := 0) dX8_isSummer_21 rfl (by decide) ?_
  refine ag_iconst (q := 23) (v := -1) dX8_isSummer_22 rfl (by decide) ?_
  refine ag_iastK (q := 24) (k := 0) dX8_isSummer_23 rfl (by decide) s_163 (by decide) (by decide) ?_
  exact A_X8_isSummer_b24 K   FU a1 a2 (0 : Int32) (up s14 163 0 (-1 : Int32))
theorem C_X8_isSummer (a1 : Int32) (a2 : Int32) (σ : Sg) : ∀ r s', J_X8_isSummer a1 a2 σ = some (r, s') → AMc yX8_isSummer mX8_isSummer [.ref 141, .int a1, .int a2] NT R0 σ (some (.int r), NT, R0, s') := fun r s' e => AMc.of (L := [some (.ref 141), some (.int a1), some (.int a2), none, none, none, none]) (by decide) rfl (fun _ => rfl) (fun _ => Nat.le_of_ble_eq_true rfl) (Nat.le_refl _) (fun K => A_X8_isSummer K a1 a2 σ _ e)
def J_X8_summer_b72  (x2 : Int32) (x3 : Int32) (w0 : Int32) (σ : Sg) : Option (Int32 × Sg) :=
  (if 0 ≤ x2 then (if x3 ≤ w0 then (some ((-4 : Int32), σ)) else (if inb w0 6 = true then (some ((σ 163 w0.toNatClampNeg), σ)) else none)) else (some (x3, σ)))
set_option maxHeartbeats 4000000 in
theorem A_X8_summer_b72 (K : KT)  (x2 : Int32) (x3 : Int32) (w0 : Int32) (σ : Sg) : AG K mX8_summer (fun a : Int32 × Sg => (some (.int a.1), NT, R0, a.2)) (J_X8_summer_b72   x2 x3 w0 σ) 72 [some (.ref 141), none, some (.int x2), some (.int x3), none] [.int w0] σ := by
  unfold J_X8_summer_b72
  refine ag_istore_4 (q := 74) dX8_summer_72 rfl (Nat.le_of_ble_eq_true rfl) rfl ?_
  refine ag_iload_2 (q := 75) dX8_summer_74 rfl ?_
  refine ag_if_ge (tgt := 82) (q := 78) dX8_summer_75 rfl rfl ?_ ?_
  · refine ag_iload_4 (q := 84) dX8_summer_82 rfl ?_
    refine ag_iload_3 (q := 85) dX8_summer_84 rfl ?_
    refine ag_icmp_ge (tgt := 98) (q := 88) dX8_summer_85 rfl rfl ?_ ?_
    · refine ag_bipush (q := 100) (v := -4) dX8_summer_98 rfl (by decide) ?_
      exact ag_iret dX8_summer_100 rfl rfl
    refine ag_aload_0 (q := 89) dX8_summer_88 rfl ?_
    refine ag_getR (q := 92) dX8_summer_89 rfl fl8_73 (by decide) (congrArg Prod.fst s_141) rfl r_141_39 ?_
    refine ag_iload_4 (q := 94) dX8_summer_92 rfl ?_
    refine ag_iald (q := 95) dX8_summer_94 rfl (by decide) s_163 ?_
    refine ag_goto (q := 100) dX8_summer_95 rfl ?_
    exact ag_iret dX8_summer_100 rfl rfl
  refine ag_iload_3 (q := 79) dX8_summer_78 rfl ?_
  refine ag_goto (q := 100) dX8_summer_79 rfl ?_
  exact ag_iret dX8_summer_100 rfl rfl
def J_X8_summer_b28  : Nat → Int32 → Int32 → Int32 → Sg → Option (Int32 × Sg)
  | 0, _, _, _, _ => none
  | k + 1, x1, x2, x3, σ =>
    (if (5 : Int32) < x3 then (some ((-4 : Int32), σ)) else (bd2 (J_X8_isSummer x1 x3 σ) fun r36 s36 => (if r36 = 0 then (J_X8_summer_b28   k x1 x2 (x3 + (1)) s36) else (if x2 ≤ (2 : Int32) then (if (rmI (s36 146 0) (2 : Int32)) = x1 then (J_X8_summer_b72   x2 x3 (((2 : Int32) * x2) + (0 : Int32)) s36) else (J_X8_summer_b72   x2 x3 (((2 : Int32) * x2) + (1 : Int32)) s36)) else (J_X8_summer_b72   x2 x3 x3 s36)))))
set_option maxHeartbeats 4000000 in
theorem A_X8_summer_b28 (K : KT)  : ∀ (k : Nat) (x1 : Int32) (x2 : Int32) (x3 : Int32) (σ : Sg), AG K mX8_summer (fun a : Int32 × Sg => (some (.int a.1), NT, R0, a.2)) (J_X8_summer_b28   k x1 x2 x3 σ) 28 [some (.ref 141), some (.int x1), some (.int x2), some (.int x3), none] [] σ := by
  intro k
  induction k with
  | zero => intro x1 x2 x3 σ; exact ag_none
  | succ k ih =>
    intro x1 x2 x3 σ
    rw [J_X8_summer_b28]
    refine ag_iload_3 (q := 29) dX8_summer_28 rfl ?_
    refine ag_iconst (q := 30) (v := 5) dX8_summer_29 rfl (by decide) ?_
    refine ag_icmp_gt (tgt := 107) (q := 33) dX8_summer_30 rfl rfl ?_ ?_
    · refine ag_bipush (q := 109) (v := -4) dX8_summer_107 rfl (by decide) ?_
      exact ag_iret dX8_summer_109 rfl rfl
    refine ag_aload_0 (q := 34) dX8_summer_33 rfl ?_
    refine ag_iload_1 (q := 35) dX8_summer_34 rfl ?_
    refine ag_iload_3 (q := 36) dX8_summer_35 rfl ?_
    refine ag_callV_mI (q := 39) (av := [.int _, .int _]) (rest := []) dX8_summer_36 rfl lk8_270 (C_X8_isSummer x1 x3 _) (by decide) (Nat.le_of_ble_eq_true rfl) (by decide) (congrArg Prod.fst s_141) (by decide) (fun _ => rfl) (Nat.le_of_ble_eq_true rfl) rfl (fun r36 s36 e36 => ?_)
    refine ag_if_eq (tgt := 101) (q := 42) dX8_summer_39 rfl rfl ?_ ?_
    · refine ag_iinc_3 (q := 104) (d := (1)) dX8_summer_101 rfl (Nat.le_of_ble_eq_true rfl) rfl (by decide) ?_
      refine ag_goto (q := 28) dX8_summer_104 rfl ?_
      exact ih x1 x2 (x3 + (1)) s36
    refine ag_iload_2 (q := 43) dX8_summer_42 rfl ?_
    refine ag_iconst (q := 44) (v := 2) dX8_summer_43 rfl (by decide) ?_
    refine ag_icmp_le (tgt := 51) (q := 47) dX8_summer_44 rfl rfl ?_ ?_
    · refine ag_iconst (q := 52) (v := 2) dX8_summer_51 rfl (by decide) ?_
      refine ag_iload_2 (q := 53) dX8_summer_52 rfl ?_
      refine ag_imul (q := 54) dX8_summer_53 rfl ?_
      refine ag_aload_0 (q := 55) dX8_summer_54 rfl ?_
      refine ag_getR (q := 58) dX8_summer_55 rfl fl8_22 (by decide) (congrArg Prod.fst s_141) rfl r_141_10 ?_
      refine ag_iconst (q := 59) (v := 0) dX8_summer_58 rfl (by decide) ?_
      refine ag_ialdK (q := 60) (k := 0) dX8_summer_59 rfl (by decide) s_146 (by decide) (by decide) ?_
      refine ag_iconst (q := 61) (v := 2) dX8_summer_60 rfl (by decide) ?_
      refine ag_iremK (q := 62) dX8_summer_61 rfl (by decide) ?_
      refine ag_iload_1 (q := 63) dX8_summer_62 rfl ?_
      refine ag_icmp_ne (tgt := 70) (q := 66) dX8_summer_63 rfl rfl ?_ ?_
      · refine ag_iconst (q := 71) (v := 1) dX8_summer_70 rfl (by decide) ?_
        refine ag_iadd (q := 72) dX8_summer_71 rfl ?_
        refine ag_kill_1 ?_
        exact A_X8_summer_b72 K   x2 x3 (((2 : Int32) * x2) + (1 : Int32)) s36
      refine ag_iconst (q := 67) (v := 0) dX8_summer_66 rfl (by decide) ?_
      refine ag_goto (q := 71) dX8_summer_67 rfl ?_
      refine ag_iadd (q := 72) dX8_summer_71 rfl ?_
      refine ag_kill_1 ?_
      exact A_X8_summer_b72 K   x2 x3 (((2 : Int32) * x2) + (0 : Int32)) s36
    refine ag_iload_3 (q := 48) dX8_summer_47 rfl ?_
    refine ag_goto (q := 72) dX8_summer_48 rfl ?_
    refine ag_kill_1 ?_
    exact A_X8_summer_b72 K   x2 x3 x3 s36
def J_X8_summer (a1 : Int32) (a2 : Int32) (σ : Sg) : Option (Int32 × Sg) :=
  (bd1 (J_X8_in a1 (0 : Int32) (1 : Int32) σ) fun r3 => (if r3 = 0 then (some ((-1 : Int32), σ)) else (if (-1 : Int32) ≤ a2 then (if 0 ≤ (σ 141 6) then (J_X8_summer_b28   FU a1 a2 (0 : Int32) σ) else (some ((-2 : Int32), σ))) else (some ((-1 : Int32), σ)))))
set_option maxHeartbeats 4000000 in
theorem A_X8_summer (K : KT) (a1 : Int32) (a2 : Int32) (σ : Sg) : AG K mX8_summer (fun a : Int32 × Sg => (some (.int a.1), NT, R0, a.2)) (J_X8_summer a1 a2 σ) 0 [some (.ref 141), some (.int a1), some (.int a2), none, none] [] σ := by
  unfold J_X8_summer
  refine ag_iload_1 (q := 1) dX8_summer_0 rfl ?_
  refine ag_iconst (q := 2) (v := 0) dX8_summer_1 rfl (by decide) ?_
  refine ag_iconst (q := 3) (v := 1) dX8_summer_2 rfl (by decide) ?_
  refine ag_callS_pI (q := 6) (av := [.int _, .int _, .int _]) (rest := []) dX8_summer_3 rfl lk8_115 (C_X8_in a1 (0 : Int32) (1 : Int32) _) (by decide) (Nat.le_of_ble_eq_true rfl) (fun _ => rfl) (Nat.le_of_ble_eq_true rfl) rfl (fun r3 e3 => ?_)
  refine ag_if_eq (tgt := 14) (q := 9) dX8_summer_6 rfl rfl ?_ ?_
  · refine ag_iconst (q := 15) (v := -1) dX8_summer_14 rfl (by decide) ?_
    exact ag_iret dX8_summer_15 rfl rfl
  refine ag_iload_2 (q := 10) dX8_summer_9 rfl ?_
  refine ag_iconst (q := 11) (v := -1) dX8_summer_10 rfl (by decide) ?_
  refine ag_icmp_ge (tgt := 16) (q := 14) dX8_summer_11 rfl rfl ?_ ?_
  · refine ag_aload_0 (q := 17) dX8_summer_16 rfl ?_
    refine ag_getI (q := 20) dX8_summer_17 rfl fl8_166 (by decide) (congrArg Prod.fst s_141) rfl ?_
    refine ag_if_ge (tgt := 26) (q := 23) dX8_summer_20 rfl rfl ?_ ?_
    · refine ag_iconst (q := 27) (v := 0) dX8_summer_26 rfl (by decide) ?_
      refine ag_istore_3 (q := 28) dX8_summer_27 rfl (Nat.le_of_ble_eq_true rfl) rfl ?_
      exact A_X8_summer_b28 K   FU a1 a2 (0 : Int32) σ
    refine ag_bipush (q := 25) (v := -2) dX8_summer_23 rfl (by decide) ?_
    exact ag_iret dX8_summer_25 rfl rfl
  refine ag_iconst (q := 15) (v := -1) dX8_summer_14 rfl (by decide) ?_
  exact ag_iret dX8_summer_15 rfl rfl
theorem C_X8_summer (a1 : Int32) (a2 : Int32) (σ : Sg) : ∀ r s', J_X8_summer a1 a2 σ = some (r, s') → AMc yX8_summer mX8_summer [.ref 141, .int a1, .int a2] NT R0 σ (some (.int r), NT, R0, s') := fun r s' e => AMc.of (L := [some (.ref 141), some (.int a1), some (.int a2), none, none]) (by decide) rfl (fun _ => rfl) (fun _ => Nat.le_of_ble_eq_true rfl) (Nat.le_refl _) (fun K => A_X8_summer K a1 a2 σ _ e)
def J_X8_isFirstOf (a1 : Int32) (σ : Sg) : Option (Int32 × Sg) :=
  (bd2 (J_X8_copies 157 (0 : Int32) 162 ((54 : Int32) * a1) (54 : Int32) σ) fun r15 s15 => (bd2 (J_X8_nextDrive (-1 : Int32) s15) fun r20 s20 => (if inb a1 6 = true then (if r20 = (s20 163 a1.toNatClampNeg) then (some ((1 : Int32), s20)) else (some ((0 : Int32), s20))) else none)))
set_option maxHeartbeats 4000000 in
theorem A_X8_isFirstOf (K : KT) (a1 : Int32) (σ : Sg) : AG K mX8_isFirstOf (fun a : Int32 × Sg => (some (.int a.1), NT, R0, a.2)) (J_X8_isFirstOf a1 σ) 0 [some (.ref 141), some (.int a1)] [] σ := by
  unfold J_X8_isFirstOf
  refine ag_aload_0 (q := 1) dX8_isFirstOf_0 rfl ?_
  refine ag_getR (q := 4) dX8_isFirstOf_1 rfl fl8_55 (by decide) (congrArg Prod.fst s_141) rfl r_141_31 ?_
  refine ag_iconst (q := 5) (v := 0) dX8_isFirstOf_4 rfl (by decide) ?_
  refine ag_aload_0 (q := 6) dX8_isFirstOf_5 rfl ?_
  refine ag_getR (q := 9) dX8_isFirstOf_6 rfl fl8_70 (by decide) (congrArg Prod.fst s_141) rfl r_141_38 ?_
  refine ag_bipush (q := 11) (v := 54) dX8_isFirstOf_9 rfl (by decide) ?_
  refine ag_iload_1 (q := 12) dX8_isFirstOf_11 rfl ?_
  refine ag_imul (q := 13) dX8_isFirstOf_12 rfl ?_
  refine ag_bipush (q := 15) (v := 54) dX8_isFirstOf_13 rfl (by decide) ?_
  refine ag_callS_mU (q := 18) (av := [.ref _, .int _, .ref _, .int _, .int _]) (rest := []) dX8_isFirstOf_15 rfl lk8_162 (C_X8_copies 157 (by decide) (0 : Int32) 162 (by decide) ((54 : Int32) * a1) (54 : Int32) _) (by decide) (Nat.le_of_ble_eq_true rfl) (fun _ => rfl) (Nat.le_of_ble_eq_true rfl) rfl (fun r15 s15 e15 => ?_)
  refine ag_aload_0 (q := 19) dX8_isFirstOf_18 rfl ?_
  refine ag_iconst (q := 20) (v := -1) dX8_isFirstOf_19 rfl (by decide) ?_
  refine ag_callV_mI (q := 23) (av := [.int _]) (rest := []) dX8_isFirstOf_20 rfl lk8_264 (C_X8_nextDrive (-1 : Int32) _) (by decide) (Nat.le_of_ble_eq_true rfl) (by decide) (congrArg Prod.fst s_141) (by decide) (fun _ => rfl) (Nat.le_of_ble_eq_true rfl) rfl (fun r20 s20 e20 => ?_)
  refine ag_aload_0 (q := 24) dX8_isFirstOf_23 rfl ?_
  refine ag_getR (q := 27) dX8_isFirstOf_24 rfl fl8_73 (by decide) (congrArg Prod.fst s_141) rfl r_141_39 ?_
  refine ag_iload_1 (q := 28) dX8_isFirstOf_27 rfl ?_
  refine ag_iald (q := 29) dX8_isFirstOf_28 rfl (by decide) s_163 ?_
  refine ag_icmp_ne (tgt := 36) (q := 32) dX8_isFirstOf_29 rfl rfl ?_ ?_
  · refine ag_iconst (q := 37) (v := 0) dX8_isFirstOf_36 rfl (by decide) ?_
    exact ag_zretK dX8_isFirstOf_37 rfl (by decide) rfl
  refine ag_iconst (q := 33) (v := 1) dX8_isFirstOf_32 rfl (by decide) ?_
  refine ag_goto (q := 37) dX8_isFirstOf_33 rfl ?_
  exact ag_zretK dX8_isFirstOf_37 rfl (by decide) rfl
theorem C_X8_isFirstOf (a1 : Int32) (σ : Sg) : ∀ r s', J_X8_isFirstOf a1 σ = some (r, s') → AMc yX8_isFirstOf mX8_isFirstOf [.ref 141, .int a1] NT R0 σ (some (.int r), NT, R0, s') := fun r s' e => AMc.of (L := [some (.ref 141), some (.int a1)]) (by decide) rfl (fun _ => rfl) (fun _ => Nat.le_of_ble_eq_true rfl) (Nat.le_refl _) (fun K => A_X8_isFirstOf K a1 σ _ e)
def J_X8_plays_b267  (y27 : Int32 → Int32 → Int32 → Sg → Option (Int32 × Sg)) (x1 : Int32) (x2 : Int32) (x3 : Int32) (x8 : Int32) (w0 : Int32) (w1 : Int32) (σ : Sg) : Option (Int32 × Sg) :=
  (if inb w1 6 = true then (if x8 = 0 then (y27 x1 x2 x3 (up σ 164 w1.toNatClampNeg w0)) else (if x2 = 0 then (y27 x1 x2 ((up σ 164 w1.toNatClampNeg w0) 163 0) (up σ 164 w1.toNatClampNeg w0)) else (y27 x1 x2 x3 (up σ 164 w1.toNatClampNeg w0)))) else none)
set_option maxHeartbeats 4000000 in
theorem A_X8_plays_b267 (K : KT)  (y27 : Int32 → Int32 → Int32 → Sg → Option (Int32 × Sg)) (hy27 : ∀ (x1 : Int32) (x2 : Int32) (x3 : Int32) (σ : Sg), AG K mX8_plays (fun a : Int32 × Sg => (some (.int a.1), NT, R0, a.2)) (y27 x1 x2 x3 σ) 27 [some (.ref 141), some (.int x1), some (.int x2), some (.int x3), none, none, none, none, none] [] σ) (x1 : Int32) (x2 : Int32) (x3 : Int32) (x8 : Int32) (w0 : Int32) (w1 : Int32) (σ : Sg) : AG K mX8_plays (fun a : Int32 × Sg => (some (.int a.1), NT, R0, a.2)) (J_X8_plays_b267  y27 x1 x2 x3 x8 w0 w1 σ) 267 [some (.ref 141), some (.int x1), some (.int x2), some (.int x3), none, none, none, none, some (.int x8)] [.int w0, .int w1, .ref 164] σ := by
  unfold J_X8_plays_b267
  refine ag_iast (q := 268) dX8_plays_267 rfl (by decide) s_164 ?_
  refine ag_iload_8 (q := 270) dX8_plays_268 rfl ?_
  refine ag_if_eq (tgt := 286) (q := 273) dX8_plays_270 rfl rfl ?_ ?_
  · refine ag_iload_3 (q := 287) dX8_plays_286 rfl ?_
    refine ag_istore_3 (q := 288) dX8_plays_287 rfl (Nat.le_of_ble_eq_true rfl) rfl ?_
    refine ag_goto (q := 27) dX8_plays_288 rfl ?_
    refine ag_kill_8 ?_
    exact hy27 x1 x2 x3 (up σ 164 w1.toNatClampNeg w0)
  refine ag_iload_2 (q := 274) dX8_plays_273 rfl ?_
  refine ag_if_ne (tgt := 286) (q := 277) dX8_plays_274 rfl rfl ?_ ?_
  · refine ag_iload_3 (q := 287) dX8_plays_286 rfl ?_
    refine ag_istore_3 (q := 288) dX8_plays_287 rfl (Nat.le_of_ble_eq_true rfl) rfl ?_
    refine ag_goto (q := 27) dX8_plays_288 rfl ?_
    refine ag_kill_8 ?_
    exact hy27 x1 x2 x3 (up σ 164 w1.toNatClampNeg w0)
  refine ag_aload_0 (q := 278) dX8_plays_277 rfl ?_
  refine ag_getR (q := 281) dX8_plays_278 rfl fl8_73 (by decide) (congrArg Prod.fst s_141) rfl r_141_39 ?_
  refine ag_iconst (q := 282) (v := 0) dX8_plays_281 rfl (by decide) ?_
  refine ag_ialdK (q := 283) (k := 0) dX8_plays_282 rfl (by decide) s_163 (by decide) (by decide) ?_
  refine ag_goto (q := 287) dX8_plays_283 rfl ?_
  refine ag_istore_3 (q := 288) dX8_plays_287 rfl (Nat.le_of_ble_eq_true rfl) rfl ?_
  refine ag_goto (q := 27) dX8_plays_288 rfl ?_
  refine ag_kill_8 ?_
  exact hy27 x1 x2 ((up σ 164 w1.toNatClampNeg w0) 163 0) (up σ 164 w1.toNatClampNeg w0)
def J_X8_plays_b239  (y27 : Int32 → Int32 → Int32 → Sg → Option (Int32 × Sg)) (x1 : Int32) (x2 : Int32) (x3 : Int32) (x6 : Int32) (σ : Sg) : Option (Int32 × Sg) :=
  (J_X8_plays_b267  y27 x1 x2 x3 (1 : Int32) x6 x2 σ)
set_option maxHeartbeats 4000000 in
theorem A_X8_plays_b239 (K : KT)  (y27 : Int32 → Int32 → Int32 → Sg → Option (Int32 × Sg)) (hy27 : ∀ (x1 : Int32) (x2 : Int32) (x3 : Int32) (σ : Sg), AG K mX8_plays (fun a : Int32 × Sg => (some (.int a.1), NT, R0, a.2)) (y27 x1 x2 x3 σ) 27 [some (.ref 141), some (.int x1), some (.int x2), some (.int x3), none, none, none, none, none] [] σ) (x1 : Int32) (x2 : Int32) (x3 : Int32) (x6 : Int32) (σ : Sg) : AG K mX8_plays (fun a : Int32 × Sg => (some (.int a.1), NT, R0, a.2)) (J_X8_plays_b239  y27 x1 x2 x3 x6 σ) 239 [some (.ref 141), some (.int x1), some (.int x2), some (.int x3), none, none, some (.int x6), none, none] [] σ := by
  unfold J_X8_plays_b239
  refine ag_iconst (q := 240) (v := 1) dX8_plays_239 rfl (by decide) ?_
  refine ag_goto (q := 244) dX8_plays_240 rfl ?_
  refine ag_istore_8 (q := 246) dX8_plays_244 rfl (Nat.le_of_ble_eq_true rfl) rfl ?_
  refine ag_aload_0 (q := 247) dX8_plays_246 rfl ?_
  refine ag_getR (q := 250) dX8_plays_247 rfl fl8_76 (by decide) (congrArg Prod.fst s_141) rfl r_141_40 ?_
  refine ag_iload_2 (q := 251) dX8_plays_250 rfl ?_
  refine ag_iload_8 (q := 253) dX8_plays_251 rfl ?_
  refine ag_if_eq_f (tgt := 261) (q := 256) dX8_plays_253 rfl rfl (by decide) ?_
  refine ag_iload_6 (q := 258) dX8_plays_256 rfl ?_
  refine ag_goto (q := 267) dX8_plays_258 rfl ?_
  refine ag_kill_6 ?_
  exact A_X8_plays_b267 K  y27 hy27 x1 x2 x3 (1 : Int32) x6 x2 σ
def J_X8_plays_b243  (y27 : Int32 → Int32 → Int32 → Sg → Option (Int32 × Sg)) (x1 : Int32) (x2 : Int32) (x3 : Int32) (x6 : Int32) (σ : Sg) : Option (Int32 × Sg) :=
  (if inb x2 6 = true then (J_X8_plays_b267  y27 x1 x2 x3 (0 : Int32) (σ 164 x2.toNatClampNeg) x2 σ) else none)
set_option maxHeartbeats 4000000 in
theorem A_X8_plays_b243 (K : KT)  (y27 : Int32 → Int32 → Int32 → Sg → Option (Int32 × Sg)) (hy27 : ∀ (x1 : Int32) (x2 : Int32) (x3 : Int32) (σ : Sg), AG K mX8_plays (fun a : Int32 × Sg => (some (.int a.1), NT, R0, a.2)) (y27 x1 x2 x3 σ) 27 [some (.ref 141), some (.int x1), some (.int x2), some (.int x3), none, none, none, none, none] [] σ) (x1 : Int32) (x2 : Int32) (x3 : Int32) (x6 : Int32) (σ : Sg) : AG K mX8_plays (fun a : Int32 × Sg => (some (.int a.1), NT, R0, a.2)) (J_X8_plays_b243  y27 x1 x2 x3 x6 σ) 243 [some (.ref 141), some (.int x1), some (.int x2), some (.int x3), none, none, some (.int x6), none, none] [] σ := by
  unfold J_X8_plays_b243
  refine ag_iconst (q := 244) (v := 0) dX8_plays_243 rfl (by decide) ?_
  refine ag_istore_8 (q := 246) dX8_plays_244 rfl (Nat.le_of_ble_eq_true rfl) rfl ?_
  refine ag_aload_0 (q := 247) dX8_plays_246 rfl ?_
  refine ag_getR (q := 250) dX8_plays_247 rfl fl8_76 (by decide) (congrArg Prod.fst s_141) rfl r_141_40 ?_
  refine ag_iload_2 (q := 251) dX8_plays_250 rfl ?_
  refine ag_iload_8 (q := 253) dX8_plays_251 rfl ?_
  refine ag_if_eq_t (q := 261) dX8_plays_253 rfl (by decide) ?_
  refine ag_aload_0 (q := 262) dX8_plays_261 rfl ?_
  refine ag_getR (q := 265) dX8_plays_262 rfl fl8_76 (by decide) (congrArg Prod.fst s_141) rfl r_141_40 ?_
  refine ag_iload_2 (q := 266) dX8_plays_265 rfl ?_
  refine ag_iald (q := 267) dX8_plays_266 rfl (by decide) s_164 ?_
  refine ag_kill_6 ?_
  exact A_X8_plays_b267 K  y27 hy27 x1 x2 x3 (0 : Int32) (σ 164 x2.toNatClampNeg) x2 σ
def J_X8_plays_b167  (y27 : Int32 → Int32 → Int32 → Sg → Option (Int32 × Sg)) (x1 : Int32) (x2 : Int32) (x3 : Int32) (w0 : Int32) (σ : Sg) : Option (Int32 × Sg) :=
  (if x2 = 0 then (some (w0, (up σ 163 5 x3))) else (bd2 (J_X8_isFirstOf (x2 + (-1)) σ) fun r188 s188 => (if r188 = 0 then (if inb (((54 : Int32) * (x2 + (-1))) + (0 : Int32)) 324 = true then (if (rmI (s188 162 (((54 : Int32) * (x2 + (-1))) + (0 : Int32)).toNatClampNeg) (2 : Int32)) = 0 then (if inb (x2 + (-1)) 6 = true then (if w0 ≤ (s188 164 (x2 + (-1)).toNatClampNeg) then (J_X8_plays_b243  y27 x1 (x2 + (-1)) x3 w0 s188) else (J_X8_plays_b239  y27 x1 (x2 + (-1)) x3 w0 s188)) else none) else (if inb (x2 + (-1)) 6 = true then (if (s188 164 (x2 + (-1)).toNatClampNeg) ≤ w0 then (J_X8_plays_b243  y27 x1 (x2 + (-1)) x3 w0 s188) else (J_X8_plays_b239  y27 x1 (x2 + (-1)) x3 w0 s188)) else none)) else none) else (J_X8_plays_b239  y27 x1 (x2 + (-1)) x3 w0 s188))))
set_option maxHeartbeats 4000000 in
theorem A_X8_plays_b167 (K : KT)  (y27 : Int32 → Int32 → Int32 → Sg → Option (Int32 × Sg)) (hy27 : ∀ (x1 : Int32) (x2 : Int32) (x3 : Int32) (σ : Sg), AG K mX8_plays (fun a : Int32 × Sg => (some (.int a.1), NT, R0, a.2)) (y27 x1 x2 x3 σ) 27 [some (.ref 141), some (.int x1), some (.int x2), some (.int x3), none, none, none, none, none] [] σ) (x1 : Int32) (x2 : Int32) (x3 : Int32) (w0 : Int32) (σ : Sg) : AG K mX8_plays (fun a : Int32 × Sg => (some (.int a.1), NT, R0, a.2)) (J_X8_plays_b167  y27 x1 x2 x3 w0 σ) 167 [some (.ref 141), some (.int x1), some (.int x2), some (.int x3), none, none, none, none, none] [.int w0] σ := by
  unfold J_X8_plays_b167
  refine ag_istore_6 (q := 169) dX8_plays_167 rfl (Nat.le_of_ble_eq_true rfl) rfl ?_
  refine ag_iload_2 (q := 170) dX8_plays_169 rfl ?_
  refine ag_if_ne (tgt := 183) (q := 173) dX8_plays_170 rfl rfl ?_ ?_
  · refine ag_iinc_2 (q := 186) (d := (-1)) dX8_plays_183 rfl (Nat.le_of_ble_eq_true rfl) rfl (by decide) ?_
    refine ag_aload_0 (q := 187) dX8_plays_186 rfl ?_
    refine ag_iload_2 (q := 188) dX8_plays_187 rfl ?_
    refine ag_callV_mI (q := 191) (av := [.int _]) (rest := []) dX8_plays_188 rfl lk8_276 (C_X8_isFirstOf (x2 + (-1)) _) (by decide) (Nat.le_of_ble_eq_true rfl) (by decide) (congrArg Prod.fst s_141) (by decide) (fun _ => rfl) (Nat.le_of_ble_eq_true rfl) rfl (fun r188 s188 e188 => ?_)
    refine ag_istore_7 (q := 193) dX8_plays_191 rfl (Nat.le_of_ble_eq_true rfl) rfl ?_
    refine ag_iload_7 (q := 195) dX8_plays_193 rfl ?_
    refine ag_if_ne (tgt := 239) (q := 198) dX8_plays_195 rfl rfl ?_ ?_
    · refine ag_kill_7 ?_
      exact A_X8_plays_b239 K  y27 hy27 x1 (x2 + (-1)) x3 w0 s188
    refine ag_aload_0 (q := 199) dX8_plays_198 rfl ?_
    refine ag_getR (q := 202) dX8_plays_199 rfl fl8_70 (by decide) (congrArg Prod.fst s_141) rfl r_141_38 ?_
    refine ag_bipush (q := 204) (v := 54) dX8_plays_202 rfl (by decide) ?_
    refine ag_iload_2 (q := 205) dX8_plays_204 rfl ?_
    refine ag_imul (q := 206) dX8_plays_205 rfl ?_
    refine ag_iconst (q := 207) (v := 0) dX8_plays_206 rfl (by decide) ?_
    refine ag_iadd (q := 208) dX8_plays_207 rfl ?_
    refine ag_iald (q := 209) dX8_plays_208 rfl (by decide) s_162 ?_
    refine ag_iconst (q := 210) (v := 2) dX8_plays_209 rfl (by decide) ?_
    refine ag_iremK (q := 211) dX8_plays_210 rfl (by decide) ?_
    refine ag_if_ne (tgt := 228) (q := 214) dX8_plays_211 rfl rfl ?_ ?_
    · refine ag_iload_6 (q := 230) dX8_plays_228 rfl ?_
      refine ag_aload_0 (q := 231) dX8_plays_230 rfl ?_
      refine ag_getR (q := 234) dX8_plays_231 rfl fl8_76 (by decide) (congrArg Prod.fst s_141) rfl r_141_40 ?_
      refine ag_iload_2 (q := 235) dX8_plays_234 rfl ?_
      refine ag_iald (q := 236) dX8_plays_235 rfl (by decide) s_164 ?_
      refine ag_icmp_ge (tgt := 243) (q := 239) dX8_plays_236 rfl rfl ?_ ?_
      · refine ag_kill_7 ?_
        exact A_X8_plays_b243 K  y27 hy27 x1 (x2 + (-1)) x3 w0 s188
      refine ag_kill_7 ?_
      exact A_X8_plays_b239 K  y27 hy27 x1 (x2 + (-1)) x3 w0 s188
    refine ag_iload_6 (q := 216) dX8_plays_214 rfl ?_
    refine ag_aload_0 (q := 217) dX8_plays_216 rfl ?_
    refine ag_getR (q := 220) dX8_plays_217 rfl fl8_76 (by decide) (congrArg Prod.fst s_141) rfl r_141_40 ?_
    refine ag_iload_2 (q := 221) dX8_plays_220 rfl ?_
    refine ag_iald (q := 222) dX8_plays_221 rfl (by decide) s_164 ?_
    refine ag_icmp_le (tgt := 243) (q := 225) dX8_plays_222 rfl rfl ?_ ?_
    · refine ag_kill_7 ?_
      exact A_X8_plays_b243 K  y27 hy27 x1 (x2 + (-1)) x3 w0 s188
    refine ag_goto (q := 239) dX8_plays_225 rfl ?_
    refine ag_kill_7 ?_
    exact A_X8_plays_b239 K  y27 hy27 x1 (x2 + (-1)) x3 w0 s188
  refine ag_aload_0 (q := 174) dX8_plays_173 rfl ?_
  refine ag_getR (q := 177) dX8_plays_174 rfl fl8_73 (by decide) (congrArg Prod.fst s_141) rfl r_141_39 ?_
  refine ag_iconst (q := 178) (v := 5) dX8_plays_177 rfl (by decide) ?_
  refine ag_iload_3 (q := 179) dX8_plays_178 rfl ?_
  refine ag_iastK (q := 180) (k := 5) dX8_plays_179 rfl (by decide) s_163 (by decide) (by decide) ?_
  refine ag_iload_6 (q := 182) dX8_plays_180 rfl ?_
  exact ag_iret dX8_plays_182 rfl rfl
def J_X8_plays_b95  (y27 : Int32 → Int32 → Int32 → Sg → Option (Int32 × Sg)) (x1 : Int32) (x2 : Int32) (x3 : Int32) (x4 : Int32) (w0 : Int32) (σ : Sg) : Option (Int32 × Sg) :=
  (if w0 = (100 : Int32) then (if x4 = 0 then (if inb x2 6 = true then (J_X8_plays_b167  y27 x1 x2 x3 (σ 164 x2.toNatClampNeg) σ) else none) else (bd1 (J_X8_worth  σ) fun r155 => (J_X8_plays_b167  y27 x1 x2 x3 r155 σ))) else (if inb x2 6 = true then (bd2 (J_X8_goesBy w0 (up σ 163 x2.toNatClampNeg w0)) fun r115 s115 => (bd2 (J_X8_copies 162 ((54 : Int32) * (x2 + (1))) 157 (0 : Int32) (54 : Int32) s115) fun r136 s136 => (if inb (x2 + (1)) 6 = true then (y27 x1 (x2 + (1)) x3 (up s136 163 (x2 + (1)).toNatClampNeg (-1 : Int32))) else none))) else none))
set_option maxHeartbeats 4000000 in
theorem A_X8_plays_b95 (K : KT)  (y27 : Int32 → Int32 → Int32 → Sg → Option (Int32 × Sg)) (hy27 : ∀ (x1 : Int32) (x2 : Int32) (x3 : Int32) (σ : Sg), AG K mX8_plays (fun a : Int32 × Sg => (some (.int a.1), NT, R0, a.2)) (y27 x1 x2 x3 σ) 27 [some (.ref 141), some (.int x1), some (.int x2), some (.int x3), none, none, none, none, none] [] σ) (x1 : Int32) (x2 : Int32) (x3 : Int32) (x4 : Int32) (w0 : Int32) (σ : Sg) : AG K mX8_plays (fun a : Int32 × Sg => (some (.int a.1), NT, R0, a.2)) (J_X8_plays_b95  y27 x1 x2 x3 x4 w0 σ) 95 [some (.ref 141), some (.int x1), some (.int x2), some (.int x3), some (.int x4), none, none, none, none] [.int w0] σ := by
  unfold J_X8_plays_b95
  refine ag_istore_5 (q := 97) dX8_plays_95 rfl (Nat.le_of_ble_eq_true rfl) rfl ?_
  refine ag_iload_5 (q := 99) dX8_plays_97 rfl ?_
  refine ag_bipush (q := 101) (v := 100) dX8_plays_99 rfl (by decide) ?_
  refine ag_icmp_eq (tgt := 149) (q := 104) dX8_plays_101 rfl rfl ?_ ?_
  · refine ag_iload_4 (q := 151) dX8_plays_149 rfl ?_
    refine ag_if_eq (tgt := 161) (q := 154) dX8_plays_151 rfl rfl ?_ ?_
    · refine ag_aload_0 (q := 162) dX8_plays_161 rfl ?_
      refine ag_getR (q := 165) dX8_plays_162 rfl fl8_76 (by decide) (congrArg Prod.fst s_141) rfl r_141_40 ?_
      refine ag_iload_2 (q := 166) dX8_plays_165 rfl ?_
      refine ag_iald (q := 167) dX8_plays_166 rfl (by decide) s_164 ?_
      refine ag_kill_4 ?_
      refine ag_kill_5 ?_
      exact A_X8_plays_b167 K  y27 hy27 x1 x2 x3 (σ 164 x2.toNatClampNeg) σ
    refine ag_aload_0 (q := 155) dX8_plays_154 rfl ?_
    refine ag_callV_pI (q := 158) (av := []) (rest := []) dX8_plays_155 rfl lk8_273 (C_X8_worth  _) (by decide) (Nat.le_of_ble_eq_true rfl) (by decide) (congrArg Prod.fst s_141) (by decide) (fun _ => rfl) (Nat.le_of_ble_eq_true rfl) rfl (fun r155 e155 => ?_)
    refine ag_goto (q := 167) dX8_plays_158 rfl ?_
    refine ag_kill_4 ?_
    refine ag_kill_5 ?_
    exact A_X8_plays_b167 K  y27 hy27 x1 x2 x3 r155 σ
  refine ag_aload_0 (q := 105) dX8_plays_104 rfl ?_
  refine ag_getR (q := 108) dX8_plays_105 rfl fl8_73 (by decide) (congrArg Prod.fst s_141) rfl r_141_39 ?_
  refine ag_iload_2 (q := 109) dX8_plays_108 rfl ?_
  refine ag_iload_5 (q := 111) dX8_plays_109 rfl ?_
  refine ag_iast (q := 112) dX8_plays_111 rfl (by decide) s_163 ?_
  refine ag_aload_0 (q := 113) dX8_plays_112 rfl ?_
  refine ag_iload_5 (q := 115) dX8_plays_113 rfl ?_
  refine ag_callV_mU (q := 118) (av := [.int _]) (rest := []) dX8_plays_115 rfl lk8_240 (C_X8_goesBy w0 _) (by decide) (Nat.le_of_ble_eq_true rfl) (by decide) (congrArg Prod.fst s_141) (by decide) (fun _ => rfl) (Nat.le_of_ble_eq_true rfl) rfl (fun r115 s115 e115 => ?_)
  refine ag_iinc_2 (q := 121) (d := (1)) dX8_plays_118 rfl (Nat.le_of_ble_eq_true rfl) rfl (by decide) ?_
  refine ag_aload_0 (q := 122) dX8_plays_121 rfl ?_
  refine ag_getR (q := 125) dX8_plays_122 rfl fl8_70 (by decide) (congrArg Prod.fst s_141) rfl r_141_38 ?_
  refine ag_bipush (q := 127) (v := 54) dX8_plays_125 rfl (by decide) ?_
  refine ag_iload_2 (q := 128) dX8_plays_127 rfl ?_
  refine ag_imul (q := 129) dX8_plays_128 rfl ?_
  refine ag_aload_0 (q := 130) dX8_plays_129 rfl ?_
  refine ag_getR (q := 133) dX8_plays_130 rfl fl8_55 (by decide) (congrArg Prod.fst s_141) rfl r_141_31 ?_
  refine ag_iconst (q := 134) (v := 0) dX8_plays_133 rfl (by decide) ?_
  refine ag_bipush (q := 136) (v := 54) dX8_plays_134 rfl (by decide) ?_
  refine ag_callS_mU (q := 139) (av := [.ref _, .int _, .ref _, .int _, .int _]) (rest := []) dX8_plays_136 rfl lk8_162 (C_X8_copies 162 (by decide) ((54 : Int32) * (x2 + (1))) 157 (by decide) (0 : Int32) (54 : Int32) _) (by decide) (Nat.le_of_ble_eq_true rfl) (fun _ => rfl) (Nat.le_of_ble_eq_true rfl) rfl (fun r136 s136 e136 => ?_)
  refine ag_aload_0 (q := 140) dX8_plays_139 rfl ?_
  refine ag_getR (q := 143) dX8_plays_140 rfl fl8_73 (by decide) (congrArg Prod.fst s_141) rfl r_141_39 ?_
  refine ag_iload_2 (q := 144) dX8_plays_143 rfl ?_
  refine ag_iconst (q := 145) (v := -1) dX8_plays_144 rfl (by decide) ?_
  refine ag_iast (q := 146) dX8_plays_145 rfl (by decide) s_163 ?_
  refine ag_goto (q := 288) dX8_plays_146 rfl ?_
  refine ag_goto (q := 27) dX8_plays_288 rfl ?_
  refine ag_kill_4 ?_
  refine ag_kill_5 ?_
  exact hy27 x1 (x2 + (1)) x3 (up s136 163 (x2 + (1)).toNatClampNeg (-1 : Int32))
def J_X8_plays_b62  (y27 : Int32 → Int32 → Int32 → Sg → Option (Int32 × Sg)) (x1 : Int32) (x2 : Int32) (x3 : Int32) (w0 : Int32) (σ : Sg) : Option (Int32 × Sg) :=
  (if w0 = 0 then (if inb x2 6 = true then (if (σ 163 x2.toNatClampNeg) = (99 : Int32) then (J_X8_plays_b95  y27 x1 x2 x3 w0 (100 : Int32) σ) else (if inb x2 6 = true then (bd2 (J_X8_nextDrive (σ 163 x2.toNatClampNeg) σ) fun r92 s92 => (J_X8_plays_b95  y27 x1 x2 x3 w0 r92 s92)) else none)) else none) else (J_X8_plays_b95  y27 x1 x2 x3 w0 (100 : Int32) σ))
set_option maxHeartbeats 4000000 in
theorem A_X8_plays_b62 (K : KT)  (y27 : Int32 → Int32 → Int32 → Sg → Option (Int32 × Sg)) (hy27 : ∀ (x1 : Int32) (x2 : Int32) (x3 : Int32) (σ : Sg), AG K mX8_plays (fun a : Int32 × Sg => (some (.int a.1), NT, R0, a.2)) (y27 x1 x2 x3 σ) 27 [some (.ref 141), some (.int x1), some (.int x2), some (.int x3), none, none, none, none, none] [] σ) (x1 : Int32) (x2 : Int32) (x3 : Int32) (w0 : Int32) (σ : Sg) : AG K mX8_plays (fun a : Int32 × Sg => (some (.int a.1), NT, R0, a.2)) (J_X8_plays_b62  y27 x1 x2 x3 w0 σ) 62 [some (.ref 141), some (.int x1), some (.int x2), some (.int x3), none, none, none, none, none] [.int w0] σ := by
  unfold J_X8_plays_b62
  refine ag_istore_4 (q := 64) dX8_plays_62 rfl (Nat.le_of_ble_eq_true rfl) rfl ?_
  refine ag_iload_4 (q := 66) dX8_plays_64 rfl ?_
  refine ag_if_ne (tgt := 80) (q := 69) dX8_plays_66 rfl rfl ?_ ?_
  · refine ag_bipush (q := 82) (v := 100) dX8_plays_80 rfl (by decide) ?_
    refine ag_goto (q := 95) dX8_plays_82 rfl ?_
    exact A_X8_plays_b95 K  y27 hy27 x1 x2 x3 w0 (100 : Int32) σ
  refine ag_aload_0 (q := 70) dX8_plays_69 rfl ?_
  refine ag_getR (q := 73) dX8_plays_70 rfl fl8_73 (by decide) (congrArg Prod.fst s_141) rfl r_141_39 ?_
  refine ag_iload_2 (q := 74) dX8_plays_73 rfl ?_
  refine ag_iald (q := 75) dX8_plays_74 rfl (by decide) s_163 ?_
  refine ag_bipush (q := 77) (v := 99) dX8_plays_75 rfl (by decide) ?_
  refine ag_icmp_ne (tgt := 85) (q := 80) dX8_plays_77 rfl rfl ?_ ?_
  · refine ag_aload_0 (q := 86) dX8_plays_85 rfl ?_
    refine ag_aload_0 (q := 87) dX8_plays_86 rfl ?_
    refine ag_getR (q := 90) dX8_plays_87 rfl fl8_73 (by decide) (congrArg Prod.fst s_141) rfl r_141_39 ?_
    refine ag_iload_2 (q := 91) dX8_plays_90 rfl ?_
    refine ag_iald (q := 92) dX8_plays_91 rfl (by decide) s_163 ?_
    refine ag_callV_mI (q := 95) (av := [.int _]) (rest := []) dX8_plays_92 rfl lk8_264 (C_X8_nextDrive (σ 163 x2.toNatClampNeg) _) (by decide) (Nat.le_of_ble_eq_true rfl) (by decide) (congrArg Prod.fst s_141) (by decide) (fun _ => rfl) (Nat.le_of_ble_eq_true rfl) rfl (fun r92 s92 e92 => ?_)
    exact A_X8_plays_b95 K  y27 hy27 x1 x2 x3 w0 r92 s92
  refine ag_bipush (q := 82) (v := 100) dX8_plays_80 rfl (by decide) ?_
  refine ag_goto (q := 95) dX8_plays_82 rfl ?_
  exact A_X8_plays_b95 K  y27 hy27 x1 x2 x3 w0 (100 : Int32) σ
def J_X8_plays_b27  : Nat → Int32 → Int32 → Int32 → Sg → Option (Int32 × Sg)
  | 0, _, _, _, _ => none
  | k + 1, x1, x2, x3, σ =>
    (bd2 (J_X8_copies 157 (0 : Int32) 162 ((54 : Int32) * x2) (54 : Int32) σ) fun r42 s42 => (if x2 = x1 then (J_X8_plays_b62  (fun x1 x2 x3 σ => J_X8_plays_b27   k x1 x2 x3 σ) x1 x2 x3 (1 : Int32) s42) else (bd1 (J_X8_lost  s42) fun r51 => (if r51 = 0 then (J_X8_plays_b62  (fun x1 x2 x3 σ => J_X8_plays_b27   k x1 x2 x3 σ) x1 x2 x3 (0 : Int32) s42) else (J_X8_plays_b62  (fun x1 x2 x3 σ => J_X8_plays_b27   k x1 x2 x3 σ) x1 x2 x3 (1 : Int32) s42)))))
set_option maxHeartbeats 4000000 in
theorem A_X8_plays_b27 (K : KT)  : ∀ (k : Nat) (x1 : Int32) (x2 : Int32) (x3 : Int32) (σ : Sg), AG K mX8_plays (fun a : Int32 × Sg => (some (.int a.1), NT, R0, a.2)) (J_X8_plays_b27   k x1 x2 x3 σ) 27 [some (.ref 141), some (.int x1), some (.int x2), some (.int x3), none, none, none, none, none] [] σ := by
  intro k
  induction k with
  | zero => intro x1 x2 x3 σ; exact ag_none
  | succ k ih =>
    intro x1 x2 x3 σ
    rw [J_X8_plays_b27]
    refine ag_aload_0 (q := 28) dX8_plays_27 rfl ?_
    refine ag_getR (q := 31) dX8_plays_28 rfl fl8_55 (by decide) (congrArg Prod.fst s_141) rfl r_141_31 ?_
    refine ag_iconst (q := 32) (v := 0) dX8_plays_31 rfl (by decide) ?_
    refine ag_aload_0 (q := 33) dX8_plays_32 rfl ?_
    refine ag_getR (q := 36) dX8_plays_33 rfl fl8_70 (by decide) (congrArg Prod.fst s_141) rfl r_141_38 ?_
    refine ag_bipush (q := 38) (v := 54) dX8_plays_36 rfl (by decide) ?_
    refine ag_iload_2 (q := 39) dX8_plays_38 rfl ?_
    refine ag_imul (q := 40) dX8_plays_39 rfl ?_
    refine ag_bipush (q := 42) (v := 54) dX8_plays_40 rfl (by decide) ?_
    refine ag_callS_mU (q := 45) (av := [.ref _, .int _, .ref _, .int _, .int _]) (rest := []) dX8_plays_42 rfl lk8_162 (C_X8_copies 157 (by decide) (0 : Int32) 162 (by decide) ((54 : Int32) * x2) (54 : Int32) _) (by decide) (Nat.le_of_ble_eq_true rfl) (fun _ => rfl) (Nat.le_of_ble_eq_true rfl) rfl (fun r42 s42 e42 => ?_)
    refine ag_iload_2 (q := 46) dX8_plays_45 rfl ?_
    refine ag_iload_1 (q := 47) dX8_plays_46 rfl ?_
    refine ag_icmp_eq (tgt := 57) (q := 50) dX8_plays_47 rfl rfl ?_ ?_
    · refine ag_iconst (q := 58) (v := 1) dX8_plays_57 rfl (by decide) ?_
      refine ag_goto (q := 62) dX8_plays_58 rfl ?_
      exact A_X8_plays_b62 K  (fun x1 x2 x3 σ => J_X8_plays_b27   k x1 x2 x3 σ) (fun x1 x2 x3 σ => ih x1 x2 x3 σ) x1 x2 x3 (1 : Int32) s42
    refine ag_aload_0 (q := 51) dX8_plays_50 rfl ?_
    refine ag_callV_pI (q := 54) (av := []) (rest := []) dX8_plays_51 rfl lk8_222 (C_X8_lost  _) (by decide) (Nat.le_of_ble_eq_true rfl) (by decide) (congrArg Prod.fst s_141) (by decide) (fun _ => rfl) (Nat.le_of_ble_eq_true rfl) rfl (fun r51 e51 => ?_)
    refine ag_if_eq (tgt := 61) (q := 57) dX8_plays_54 rfl rfl ?_ ?_
    · refine ag_iconst (q := 62) (v := 0) dX8_plays_61 rfl (by decide) ?_
      exact A_X8_plays_b62 K  (fun x1 x2 x3 σ => J_X8_plays_b27   k x1 x2 x3 σ) (fun x1 x2 x3 σ => ih x1 x2 x3 σ) x1 x2 x3 (0 : Int32) s42
    refine ag_iconst (q := 58) (v := 1) dX8_plays_57 rfl (by decide) ?_
    refine ag_goto (q := 62) dX8_plays_58 rfl ?_
    exact A_X8_plays_b62 K  (fun x1 x2 x3 σ => J_X8_plays_b27   k x1 x2 x3 σ) (fun x1 x2 x3 σ => ih x1 x2 x3 σ) x1 x2 x3 (1 : Int32) s42
def J_X8_plays (a1 : Int32) (σ : Sg) : Option (Int32 × Sg) :=
  (bd2 (J_X8_copies 162 (0 : Int32) 146 (0 : Int32) (54 : Int32) σ) fun r17 s17 => (J_X8_plays_b27   FU a1 (0 : Int32) (99 : Int32) (up s17 163 0 (-1 : Int32))))
set_option maxHeartbeats 4000000 in
theorem A_X8_plays (K : KT) (a1 : Int32) (σ : Sg) : AG K mX8_plays (fun a : Int32 × Sg => (some (.int a.1), NT, R0, a.2)) (J_X8_plays a1 σ) 0 [some (.ref 141), some (.int a1), none, none, none, none, none, none, none] [] σ := by
  unfold J_X8_plays
  refine ag_iconst (q := 1) (v := 0) dX8_plays_0 rfl (by decide) ?_
  refine ag_istore_2 (q := 2) dX8_plays_1 rfl (Nat.le_of_ble_eq_true rfl) rfl ?_
  refine ag_bipush (q := 4) (v := 99) dX8_plays_2 rfl (by decide) ?_
  refine ag_istore_3 (q := 5) dX8_plays_4 rfl (Nat.le_of_ble_eq_true rfl) rfl ?_
  refine ag_aload_0 (q := 6) dX8_plays_5 rfl ?_
  refine ag_getR (q := 9) dX8_plays_6 rfl fl8_70 (by decide) (congrArg Prod.fst s_141) rfl r_141_38 ?_
  refine ag_iconst (q := 10) (v := 0) dX8_plays_9 rfl (by decide) ?_
  refine ag_aload_0 (q := 11) dX8_plays_10 rfl ?_
  refine ag_getR (q := 14) dX8_plays_11 rfl fl8_22 (by decide) (congrArg Prod.fst s_141) rfl r_141_10 ?_
  refine ag_iconst (q := 15) (v := 0) dX8_plays_14 rfl (by decide) ?_
  refine ag_bipush (q := 17) (v := 54) dX8_plays_15 rfl (by decide) ?_
  refine ag_callS_mU (q := 20) (av := [.ref _, .int _, .ref _, .int _, .int _]) (rest := []) dX8_plays_17 rfl lk8_162 (C_X8_copies 162 (by decide) (0 : Int32) 146 (by decide) (0 : Int32) (54 : Int32) _) (by decide) (Nat.le_of_ble_eq_true rfl) (fun _ => rfl) (Nat.le_of_ble_eq_true rfl) rfl (fun r17 s17 e17 => ?_)
  refine ag_aload_0 (q := 21) dX8_plays_20 rfl ?_
  refine ag_getR (q := 24) dX8_plays_21 rfl fl8_73 (by decide) (congrArg Prod.fst s_141) rfl r_141_39 ?_
  refine ag_iconst (q := 25) (v := 0) dX8_plays_24 rfl (by decide) ?_
  refine ag_iconst (q := 26) (v := -1) dX8_plays_25 rfl (by decide) ?_
  refine ag_iastK (q := 27) (k := 0) dX8_plays_26 rfl (by decide) s_163 (by decide) (by decide) ?_
  exact A_X8_plays_b27 K   FU a1 (0 : Int32) (99 : Int32) (up s17 163 0 (-1 : Int32))
theorem C_X8_plays (a1 : Int32) (σ : Sg) : ∀ r s', J_X8_plays a1 σ = some (r, s') → AMc yX8_plays mX8_plays [.ref 141, .int a1] NT R0 σ (some (.int r), NT, R0, s') := fun r s' e => AMc.of (L := [some (.ref 141), some (.int a1), none, none, none, none, none, none, none]) (by decide) rfl (fun _ => rfl) (fun _ => Nat.le_of_ble_eq_true rfl) (Nat.le_refl _) (fun K => A_X8_plays K a1 σ _ e)
def J_X8_game (a1 : Int32) (a2 : Int32) (σ : Sg) : Option (Int32 × Sg) :=
  (bd1 (J_X8_in a1 (1 : Int32) (3 : Int32) σ) fun r3 => (if r3 = 0 then (some ((-1 : Int32), σ)) else (bd1 (J_X8_in a2 (0 : Int32) (1 : Int32) σ) fun r12 => (if r12 = 0 then (some ((-1 : Int32), σ)) else (bd2 (J_X8_asItIs  σ) fun r21 s21 => (bd1 (J_X8_lost  s21) fun r25 => (if r25 = 0 then (bd2 (J_X8_plays a1 s21) fun r36 s36 => (if a2 = 0 then (some (((100 : Int32) + r36), s36)) else (some ((s36 163 5), s36)))) else (some ((-2 : Int32), s21)))))))))
set_option maxHeartbeats 4000000 in
theorem A_X8_game (K : KT) (a1 : Int32) (a2 : Int32) (σ : Sg) : AG K mX8_game (fun a : Int32 × Sg => (some (.int a.1), NT, R0, a.2)) (J_X8_game a1 a2 σ) 0 [some (.ref 141), some (.int a1), some (.int a2), none] [] σ := by
  unfold J_X8_game
  refine ag_iload_1 (q := 1) dX8_game_0 rfl ?_
  refine ag_iconst (q := 2) (v := 1) dX8_game_1 rfl (by decide) ?_
  refine ag_iconst (q := 3) (v := 3) dX8_game_2 rfl (by decide) ?_
  refine ag_callS_pI (q := 6) (av := [.int _, .int _, .int _]) (rest := []) dX8_game_3 rfl lk8_115 (C_X8_in a1 (1 : Int32) (3 : Int32) _) (by decide) (Nat.le_of_ble_eq_true rfl) (fun _ => rfl) (Nat.le_of_ble_eq_true rfl) rfl (fun r3 e3 => ?_)
  refine ag_if_eq (tgt := 18) (q := 9) dX8_game_6 rfl rfl ?_ ?_
  · refine ag_iconst (q := 19) (v := -1) dX8_game_18 rfl (by decide) ?_
    exact ag_iret dX8_game_19 rfl rfl
  refine ag_iload_2 (q := 10) dX8_game_9 rfl ?_
  refine ag_iconst (q := 11) (v := 0) dX8_game_10 rfl (by decide) ?_
  refine ag_iconst (q := 12) (v := 1) dX8_game_11 rfl (by decide) ?_
  refine ag_callS_pI (q := 15) (av := [.int _, .int _, .int _]) (rest := []) dX8_game_12 rfl lk8_115 (C_X8_in a2 (0 : Int32) (1 : Int32) _) (by decide) (Nat.le_of_ble_eq_true rfl) (fun _ => rfl) (Nat.le_of_ble_eq_true rfl) rfl (fun r12 e12 => ?_)
  refine ag_if_ne (tgt := 20) (q := 18) dX8_game_15 rfl rfl ?_ ?_
  · refine ag_aload_0 (q := 21) dX8_game_20 rfl ?_
    refine ag_callV_mU (q := 24) (av := []) (rest := []) dX8_game_21 rfl lk8_228 (C_X8_asItIs  _) (by decide) (Nat.le_of_ble_eq_true rfl) (by decide) (congrArg Prod.fst s_141) (by decide) (fun _ => rfl) (Nat.le_of_ble_eq_true rfl) rfl (fun r21 s21 e21 => ?_)
    refine ag_aload_0 (q := 25) dX8_game_24 rfl ?_
    refine ag_callV_pI (q := 28) (av := []) (rest := []) dX8_game_25 rfl lk8_222 (C_X8_lost  _) (by decide) (Nat.le_of_ble_eq_true rfl) (by decide) (congrArg Prod.fst s_141) (by decide) (fun _ => rfl) (Nat.le_of_ble_eq_true rfl) rfl (fun r25 e25 => ?_)
    refine ag_if_eq (tgt := 34) (q := 31) dX8_game_28 rfl rfl ?_ ?_
    · refine ag_aload_0 (q := 35) dX8_game_34 rfl ?_
      refine ag_iload_1 (q := 36) dX8_game_35 rfl ?_
      refine ag_callV_mI (q := 39) (av := [.int _]) (rest := []) dX8_game_36 rfl lk8_279 (C_X8_plays a1 _) (by decide) (Nat.le_of_ble_eq_true rfl) (by decide) (congrArg Prod.fst s_141) (by decide) (fun _ => rfl) (Nat.le_of_ble_eq_true rfl) rfl (fun r36 s36 e36 => ?_)
      refine ag_istore_3 (q := 40) dX8_game_39 rfl (Nat.le_of_ble_eq_true rfl) rfl ?_
      refine ag_iload_2 (q := 41) dX8_game_40 rfl ?_
      refine ag_if_ne (tgt := 51) (q := 44) dX8_game_41 rfl rfl ?_ ?_
      · refine ag_aload_0 (q := 52) dX8_game_51 rfl ?_
        refine ag_getR (q := 55) dX8_game_52 rfl fl8_73 (by decide) (congrArg Prod.fst s_141) rfl r_141_39 ?_
        refine ag_iconst (q := 56) (v := 5) dX8_game_55 rfl (by decide) ?_
        refine ag_ialdK (q := 57) (k := 5) dX8_game_56 rfl (by decide) s_163 (by decide) (by decide) ?_
        exact ag_iret dX8_game_57 rfl rfl
      refine ag_bipush (q := 46) (v := 100) dX8_game_44 rfl (by decide) ?_
      refine ag_iload_3 (q := 47) dX8_game_46 rfl ?_
      refine ag_iadd (q := 48) dX8_game_47 rfl ?_
      refine ag_goto (q := 57) dX8_game_48 rfl ?_
      exact ag_iret dX8_game_57 rfl rfl
    refine ag_bipush (q := 33) (v := -2) dX8_game_31 rfl (by decide) ?_
    exact ag_iret dX8_game_33 rfl rfl
  refine ag_iconst (q := 19) (v := -1) dX8_game_18 rfl (by decide) ?_
  exact ag_iret dX8_game_19 rfl rfl
theorem C_X8_game (a1 : Int32) (a2 : Int32) (σ : Sg) : ∀ r s', J_X8_game a1 a2 σ = some (r, s') → AMc yX8_game mX8_game [.ref 141, .int a1, .int a2] NT R0 σ (some (.int r), NT, R0, s') := fun r s' e => AMc.of (L := [some (.ref 141), some (.int a1), some (.int a2), none]) (by decide) rfl (fun _ => rfl) (fun _ => Nat.le_of_ble_eq_true rfl) (Nat.le_refl _) (fun K => A_X8_game K a1 a2 σ _ e)
def J_X8_again_b30  : Nat → Int32 → Int32 → Sg → Option (Int32 × Sg)
  | 0, _, _, _ => none
  | k + 1, x1, x2, σ =>
    (if (60 : Int32) < x2 then (some ((-4 : Int32), σ)) else (if inb ((1 : Int32) + x1) 54 = true then (if (σ 157 ((1 : Int32) + x1).toNatClampNeg) ≤ 0 then (bd2 (J_X8_goesBy (99 : Int32) σ) fun r52 s52 => (J_X8_again_b30   k x1 (x2 + (1)) s52)) else (some (x2, σ))) else none))
set_option maxHeartbeats 4000000 in
theorem A_X8_again_b30 (K : KT)  : ∀ (k : Nat) (x1 : Int32) (x2 : Int32) (σ : Sg), AG K mX8_again (fun a : Int32 × Sg => (some (.int a.1), NT, R0, a.2)) (J_X8_again_b30   k x1 x2 σ) 30 [some (.ref 141), some (.int x1), some (.int x2)] [] σ := by
  intro k
  induction k with
  | zero => intro x1 x2 σ; exact ag_none
  | succ k ih =>
    intro x1 x2 σ
    rw [J_X8_again_b30]
    refine ag_iload_2 (q := 31) dX8_again_30 rfl ?_
    refine ag_bipush (q := 33) (v := 60) dX8_again_31 rfl (by decide) ?_
    refine ag_icmp_gt (tgt := 61) (q := 36) dX8_again_33 rfl rfl ?_ ?_
    · refine ag_bipush (q := 63) (v := -4) dX8_again_61 rfl (by decide) ?_
      exact ag_iret dX8_again_63 rfl rfl
    refine ag_aload_0 (q := 37) dX8_again_36 rfl ?_
    refine ag_getR (q := 40) dX8_again_37 rfl fl8_55 (by decide) (congrArg Prod.fst s_141) rfl r_141_31 ?_
    refine ag_iconst (q := 41) (v := 1) dX8_again_40 rfl (by decide) ?_
    refine ag_iload_1 (q := 42) dX8_again_41 rfl ?_
    refine ag_iadd (q := 43) dX8_again_42 rfl ?_
    refine ag_iald (q := 44) dX8_again_43 rfl (by decide) s_157 ?_
    refine ag_if_le (tgt := 49) (q := 47) dX8_again_44 rfl rfl ?_ ?_
    · refine ag_aload_0 (q := 50) dX8_again_49 rfl ?_
      refine ag_bipush (q := 52) (v := 99) dX8_again_50 rfl (by decide) ?_
      refine ag_callV_mU (q := 55) (av := [.int _]) (rest := []) dX8_again_52 rfl lk8_240 (C_X8_goesBy (99 : Int32) _) (by decide) (Nat.le_of_ble_eq_true rfl) (by decide) (congrArg Prod.fst s_141) (by decide) (fun _ => rfl) (Nat.le_of_ble_eq_true rfl) rfl (fun r52 s52 e52 => ?_)
      refine ag_iinc_2 (q := 58) (d := (1)) dX8_again_55 rfl (Nat.le_of_ble_eq_true rfl) rfl (by decide) ?_
      refine ag_goto (q := 30) dX8_again_58 rfl ?_
      exact ih x1 (x2 + (1)) s52
    refine ag_iload_2 (q := 48) dX8_again_47 rfl ?_
    exact ag_iret dX8_again_48 rfl rfl
def J_X8_again (a1 : Int32) (σ : Sg) : Option (Int32 × Sg) :=
  (bd1 (J_X8_isSquare a1 σ) fun r2 => (if r2 = 0 then (some ((-1 : Int32), σ)) else (if inb a1 36 = true then (if (σ 142 a1.toNatClampNeg) = (9 : Int32) then (some ((-2 : Int32), σ)) else (bd2 (J_X8_asItIs  σ) fun r25 s25 => (J_X8_again_b30   FU a1 (0 : Int32) s25))) else none)))
set_option maxHeartbeats 4000000 in
theorem A_X8_again (K : KT) (a1 : Int32) (σ : Sg) : AG K mX8_again (fun a : Int32 × Sg => (some (.int a.1), NT, R0, a.2)) (J_X8_again a1 σ) 0 [some (.ref 141), some (.int a1), none] [] σ := by
  unfold J_X8_again
  refine ag_aload_0 (q := 1) dX8_again_0 rfl ?_
  refine ag_iload_1 (q := 2) dX8_again_1 rfl ?_
  refine ag_callV_pI (q := 5) (av := [.int _]) (rest := []) dX8_again_2 rfl lk8_225 (C_X8_isSquare a1 _) (by decide) (Nat.le_of_ble_eq_true rfl) (by decide) (congrArg Prod.fst s_141) (by decide) (fun _ => rfl) (Nat.le_of_ble_eq_true rfl) rfl (fun r2 e2 => ?_)
  refine ag_if_ne (tgt := 10) (q := 8) dX8_again_5 rfl rfl ?_ ?_
  · refine ag_aload_0 (q := 11) dX8_again_10 rfl ?_
    refine ag_getR (q := 14) dX8_again_11 rfl fl8_7 (by decide) (congrArg Prod.fst s_141) rfl r_141_2 ?_
    refine ag_iload_1 (q := 15) dX8_again_14 rfl ?_
    refine ag_iald (q := 16) dX8_again_15 rfl (by decide) s_142 ?_
    refine ag_bipush (q := 18) (v := 9) dX8_again_16 rfl (by decide) ?_
    refine ag_icmp_ne (tgt := 24) (q := 21) dX8_again_18 rfl rfl ?_ ?_
    · refine ag_aload_0 (q := 25) dX8_again_24 rfl ?_
      refine ag_callV_mU (q := 28) (av := []) (rest := []) dX8_again_25 rfl lk8_228 (C_X8_asItIs  _) (by decide) (Nat.le_of_ble_eq_true rfl) (by decide) (congrArg Prod.fst s_141) (by decide) (fun _ => rfl) (Nat.le_of_ble_eq_true rfl) rfl (fun r25 s25 e25 => ?_)
      refine ag_iconst (q := 29) (v := 0) dX8_again_28 rfl (by decide) ?_
      refine ag_istore_2 (q := 30) dX8_again_29 rfl (Nat.le_of_ble_eq_true rfl) rfl ?_
      exact A_X8_again_b30 K   FU a1 (0 : Int32) s25
    refine ag_bipush (q := 23) (v := -2) dX8_again_21 rfl (by decide) ?_
    exact ag_iret dX8_again_23 rfl rfl
  refine ag_iconst (q := 9) (v := -1) dX8_again_8 rfl (by decide) ?_
  exact ag_iret dX8_again_9 rfl rfl
theorem C_X8_again (a1 : Int32) (σ : Sg) : ∀ r s', J_X8_again a1 σ = some (r, s') → AMc yX8_again mX8_again [.ref 141, .int a1] NT R0 σ (some (.int r), NT, R0, s') := fun r s' e => AMc.of (L := [some (.ref 141), some (.int a1), none]) (by decide) rfl (fun _ => rfl) (fun _ => Nat.le_of_ble_eq_true rfl) (Nat.le_refl _) (fun K => A_X8_again K a1 σ _ e)
