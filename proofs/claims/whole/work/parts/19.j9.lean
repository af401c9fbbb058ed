def J_X8_wolves_b132  (y88 : Int32 → Int32 → Int32 → Int32 → Int32 → Int32 → Int32 → Sg → Option (Int32 × Sg)) (y106 : Int32 → Int32 → Int32 → Int32 → Int32 → Int32 → Int32 → Int32 → Int32 → Sg → Option (Int32 × Sg)) (x1 : Int32) (x2 : Int32) (x3 : Int32) (x4 : Int32) (x5 : Int32) (x6 : Int32) (x7 : Int32) (x9 : Int32) (w0 : Int32) (w1 : Int32) (σ : Sg) : Option (Int32 × Sg) :=
  (bd2 (J_X8_grazes  σ) fun r136 s136 => (bd1 (J_X8_has x7 x9 s136) fun r143 => (if r143 = 0 then (bd2 (J_X8_nextDay  s136) fun r154 s154 => (y106 x1 x2 x3 x4 x5 x6 x7 (w1 * w0) (x9 + (1)) s154)) else (bd2 (J_X8_wolf  s136) fun r150 s150 => (bd2 (J_X8_nextDay  s150) fun r154 s154 => (y106 x1 x2 x3 x4 x5 x6 x7 (w1 * w0) (x9 + (1)) s154))))))
set_option maxHeartbeats 4000000 in
theorem A_X8_wolves_b132 (K : KT) {N : Nat} (hN : NT ≤ N)  (y88 : Int32 → Int32 → Int32 → Int32 → Int32 → Int32 → Int32 → Sg → Option (Int32 × Sg)) (hy88 : ∀ (x1 : Int32) (x2 : Int32) (x3 : Int32) (x4 : Int32) (x5 : Int32) (x6 : Int32) (x7 : Int32) (σ : Sg), AG K mX8_wolves N (fun a : Int32 × Sg => (some (.int a.1), N, R0, a.2)) (y88 x1 x2 x3 x4 x5 x6 x7 σ) 88 [some (.ref 141), some (.int x1), some (.int x2), some (.int x3), some (.int x4), some (.int x5), some (.int x6), some (.int x7), none, none] [] σ) (y106 : Int32 → Int32 → Int32 → Int32 → Int32 → Int32 → Int32 → Int32 → Int32 → Sg → Option (Int32 × Sg)) (hy106 : ∀ (x1 : Int32) (x2 : Int32) (x3 : Int32) (x4 : Int32) (x5 : Int32) (x6 : Int32) (x7 : Int32) (x8 : Int32) (x9 : Int32) (σ : Sg), AG K mX8_wolves N (fun a : Int32 × Sg => (some (.int a.1), N, R0, a.2)) (y106 x1 x2 x3 x4 x5 x6 x7 x8 x9 σ) 106 [some (.ref 141), some (.int x1), some (.int x2), some (.int x3), some (.int x4), some (.int x5), some (.int x6), some (.int x7), some (.int x8), some (.int x9)] [] σ) (x1 : Int32) (x2 : Int32) (x3 : Int32) (x4 : Int32) (x5 : Int32) (x6 : Int32) (x7 : Int32) (x9 : Int32) (w0 : Int32) (w1 : Int32) (σ : Sg) : AG K mX8_wolves N (fun a : Int32 × Sg => (some (.int a.1), N, R0, a.2)) (J_X8_wolves_b132  y88 y106 x1 x2 x3 x4 x5 x6 x7 x9 w0 w1 σ) 132 [some (.ref 141), some (.int x1), some (.int x2), some (.int x3), some (.int x4), some (.int x5), some (.int x6), some (.int x7), none, some (.int x9)] [.int w0, .int w1] σ := by
  unfold J_X8_wolves_b132
  refine ag_imul (q := 133) dX8_wolves_132 rfl ?_
  refine ag_istore_8 (q := 135) dX8_wolves_133 rfl (Nat.le_of_ble_eq_true rfl) rfl ?_
  refine ag_aload_0 (q := 136) dX8_wolves_135 rfl ?_
  refine ag_callV_mU (q := 139) (av := []) (rest := []) dX8_wolves_136 rfl lk8_216 (C_X8_grazes hN  _) (by decide) (Nat.le_of_ble_eq_true rfl) (Nat.lt_of_lt_of_le (by decide : 141 < NT) hN) (congrArg Prod.fst s_141) (by decide) (fun _ => rfl) (Nat.le_of_ble_eq_true rfl) rfl (fun r136 s136 e136 => ?_)
  refine ag_iload_7 (q := 141) dX8_wolves_139 rfl ?_
  refine ag_iload_9 (q := 143) dX8_wolves_141 rfl ?_
  refine ag_callS_pI (q := 146) (av := [.int _, .int _]) (rest := []) dX8_wolves_143 rfl lk8_181 (C_X8_has hN x7 x9 _) (by decide) (Nat.le_of_ble_eq_true rfl) (fun _ => rfl) (Nat.le_of_ble_eq_true rfl) rfl (fun r143 e143 => ?_)
  refine ag_if_eq (tgt := 153) (q := 149) dX8_wolves_146 rfl rfl ?_ ?_
  · refine ag_aload_0 (q := 154) dX8_wolves_153 rfl ?_
    refine ag_callV_mU (q := 157) (av := []) (rest := []) dX8_wolves_154 rfl lk8_219 (C_X8_nextDay hN  _) (by decide) (Nat.le_of_ble_eq_true rfl) (Nat.lt_of_lt_of_le (by decide : 141 < NT) hN) (congrArg Prod.fst s_141) (by decide) (fun _ => rfl) (Nat.le_of_ble_eq_true rfl) rfl (fun r154 s154 e154 => ?_)
    refine ag_iinc_9 (q := 160) (d := (1)) dX8_wolves_157 rfl (Nat.le_of_ble_eq_true rfl) rfl (by decide) ?_
    refine ag_goto (q := 106) dX8_wolves_160 rfl ?_
    exact hy106 x1 x2 x3 x4 x5 x6 x7 (w1 * w0) (x9 + (1)) s154
  refine ag_aload_0 (q := 150) dX8_wolves_149 rfl ?_
  refine ag_callV_mU (q := 153) (av := []) (rest := []) dX8_wolves_150 rfl lk8_289 (C_X8_wolf hN  _) (by decide) (Nat.le_of_ble_eq_true rfl) (Nat.lt_of_lt_of_le (by decide : 141 < NT) hN) (congrArg Prod.fst s_141) (by decide) (fun _ => rfl) (Nat.le_of_ble_eq_true rfl) rfl (fun r150 s150 e150 => ?_)
  refine ag_aload_0 (q := 154) dX8_wolves_153 rfl ?_
  refine ag_callV_mU (q := 157) (av := []) (rest := []) dX8_wolves_154 rfl lk8_219 (C_X8_nextDay hN  _) (by decide) (Nat.le_of_ble_eq_true rfl) (Nat.lt_of_lt_of_le (by decide : 141 < NT) hN) (congrArg Prod.fst s_141) (by decide) (fun _ => rfl) (Nat.le_of_ble_eq_true rfl) rfl (fun r154 s154 e154 => ?_)
  refine ag_iinc_9 (q := 160) (d := (1)) dX8_wolves_157 rfl (Nat.le_of_ble_eq_true rfl) rfl (by decide) ?_
  refine ag_goto (q := 106) dX8_wolves_160 rfl ?_
  exact hy106 x1 x2 x3 x4 x5 x6 x7 (w1 * w0) (x9 + (1)) s154
def J_X8_wolves_b106  (y88 : Int32 → Int32 → Int32 → Int32 → Int32 → Int32 → Int32 → Sg → Option (Int32 × Sg)) : Nat → Int32 → Int32 → Int32 → Int32 → Int32 → Int32 → Int32 → Int32 → Int32 → Sg → Option (Int32 × Sg)
  | 0, _, _, _, _, _, _, _, _, _, _ => none
  | k + 1, x1, x2, x3, x4, x5, x6, x7, x8, x9, σ =>
    (if x2 ≤ x9 then (if inb ((37 : Int32) + x1) 54 = true then (if (σ 157 ((37 : Int32) + x1).toNatClampNeg) = (36 : Int32) then (y88 x1 x2 x3 x4 (x5 + (0 : Int32)) x6 (x7 + (1)) σ) else (y88 x1 x2 x3 x4 (x5 + x8) x6 (x7 + (1)) σ)) else none) else (bd1 (J_X8_has x7 x9 σ) fun r118 => (if r118 = 0 then (J_X8_wolves_b132  y88 (fun x1 x2 x3 x4 x5 x6 x7 x8 x9 σ => J_X8_wolves_b106  y88 k x1 x2 x3 x4 x5 x6 x7 x8 x9 σ) x1 x2 x3 x4 x5 x6 x7 x9 ((10 : Int32) - x3) x8 σ) else (J_X8_wolves_b132  y88 (fun x1 x2 x3 x4 x5 x6 x7 x8 x9 σ => J_X8_wolves_b106  y88 k x1 x2 x3 x4 x5 x6 x7 x8 x9 σ) x1 x2 x3 x4 x5 x6 x7 x9 x3 x8 σ))))
set_option maxHeartbeats 4000000 in
theorem A_X8_wolves_b106 (K : KT) {N : Nat} (hN : NT ≤ N)  (y88 : Int32 → Int32 → Int32 → Int32 → Int32 → Int32 → Int32 → Sg → Option (Int32 × Sg)) (hy88 : ∀ (x1 : Int32) (x2 : Int32) (x3 : Int32) (x4 : Int32) (x5 : Int32) (x6 : Int32) (x7 : Int32) (σ : Sg), AG K mX8_wolves N (fun a : Int32 × Sg => (some (.int a.1), N, R0, a.2)) (y88 x1 x2 x3 x4 x5 x6 x7 σ) 88 [some (.ref 141), some (.int x1), some (.int x2), some (.int x3), some (.int x4), some (.int x5), some (.int x6), some (.int x7), none, none] [] σ) : ∀ (k : Nat) (x1 : Int32) (x2 : Int32) (x3 : Int32) (x4 : Int32) (x5 : Int32) (x6 : Int32) (x7 : Int32) (x8 : Int32) (x9 : Int32) (σ : Sg), AG K mX8_wolves N (fun a : Int32 × Sg => (some (.int a.1), N, R0, a.2)) (J_X8_wolves_b106  y88 k x1 x2 x3 x4 x5 x6 x7 x8 x9 σ) 106 [some (.ref 141), some (.int x1), some (.int x2), some (.int x3), some (.int x4), some (.int x5), some (.int x6), some (.int x7), some (.int x8), some (.int x9)] [] σ := by
  intro k
  induction k with
  | zero => intro x1 x2 x3 x4 x5 x6 x7 x8 x9 σ; exact ag_none
  | succ k ih =>
    intro x1 x2 x3 x4 x5 x6 x7 x8 x9 σ
    rw [J_X8_wolves_b106]
    refine ag_iload_9 (q := 108) dX8_wolves_106 rfl ?_
    refine ag_iload_2 (q := 109) dX8_wolves_108 rfl ?_
    refine ag_icmp_ge (tgt := 163) (q := 112) dX8_wolves_109 rfl rfl ?_ ?_
    · refine ag_iload_5 (q := 165) dX8_wolves_163 rfl ?_
      refine ag_aload_0 (q := 166) dX8_wolves_165 rfl ?_
      refine ag_getR (q := 169) dX8_wolves_166 rfl fl8_55 (Nat.lt_of_lt_of_le (by decide : 141 < NT) hN) (congrArg Prod.fst s_141) rfl r_141_31 ?_
      refine ag_bipush (q := 171) (v := 37) dX8_wolves_169 rfl (by decide) ?_
      refine ag_iload_1 (q := 172) dX8_wolves_171 rfl ?_
      refine ag_iadd (q := 173) dX8_wolves_172 rfl ?_
      refine ag_iald (q := 174) dX8_wolves_173 rfl (Nat.lt_of_lt_of_le (by decide : 157 < NT) hN) s_157 ?_
      refine ag_bipush (q := 176) (v := 36) dX8_wolves_174 rfl (by decide) ?_
      refine ag_icmp_eq (tgt := 184) (q := 179) dX8_wolves_176 rfl rfl ?_ ?_
      · refine ag_iconst (q := 185) (v := 0) dX8_wolves_184 rfl (by decide) ?_
        refine ag_iadd (q := 186) dX8_wolves_185 rfl ?_
        refine ag_istore_5 (q := 188) dX8_wolves_186 rfl (Nat.le_of_ble_eq_true rfl) rfl ?_
        refine ag_iinc_7 (q := 191) (d := (1)) dX8_wolves_188 rfl (Nat.le_of_ble_eq_true rfl) rfl (by decide) ?_
        refine ag_goto (q := 88) dX8_wolves_191 rfl ?_
        refine ag_kill_8 ?_
        refine ag_kill_9 ?_
        exact hy88 x1 x2 x3 x4 (x5 + (0 : Int32)) x6 (x7 + (1)) σ
      refine ag_iload_8 (q := 181) dX8_wolves_179 rfl ?_
      refine ag_goto (q := 185) dX8_wolves_181 rfl ?_
      refine ag_iadd (q := 186) dX8_wolves_185 rfl ?_
      refine ag_istore_5 (q := 188) dX8_wolves_186 rfl (Nat.le_of_ble_eq_true rfl) rfl ?_
      refine ag_iinc_7 (q := 191) (d := (1)) dX8_wolves_188 rfl (Nat.le_of_ble_eq_true rfl) rfl (by decide) ?_
      refine ag_goto (q := 88) dX8_wolves_191 rfl ?_
      refine ag_kill_8 ?_
      refine ag_kill_9 ?_
      exact hy88 x1 x2 x3 x4 (x5 + x8) x6 (x7 + (1)) σ
    refine ag_iload_8 (q := 114) dX8_wolves_112 rfl ?_
    refine ag_iload_7 (q := 116) dX8_wolves_114 rfl ?_
    refine ag_iload_9 (q := 118) dX8_wolves_116 rfl ?_
    refine ag_callS_pI (q := 121) (av := [.int _, .int _]) (rest := [.int _]) dX8_wolves_118 rfl lk8_181 (C_X8_has hN x7 x9 _) (by decide) (Nat.le_of_ble_eq_true rfl) (fun _ => rfl) (Nat.le_of_ble_eq_true rfl) rfl (fun r118 e118 => ?_)
    refine ag_if_eq (tgt := 128) (q := 124) dX8_wolves_121 rfl rfl ?_ ?_
    · refine ag_bipush (q := 130) (v := 10) dX8_wolves_128 rfl (by decide) ?_
      refine ag_iload_3 (q := 131) dX8_wolves_130 rfl ?_
      refine ag_isub (q := 132) dX8_wolves_131 rfl ?_
      refine ag_kill_8 ?_
      exact A_X8_wolves_b132 K hN  y88 hy88 (fun x1 x2 x3 x4 x5 x6 x7 x8 x9 σ => J_X8_wolves_b106  y88 k x1 x2 x3 x4 x5 x6 x7 x8 x9 σ) (fun x1 x2 x3 x4 x5 x6 x7 x8 x9 σ => ih x1 x2 x3 x4 x5 x6 x7 x8 x9 σ) x1 x2 x3 x4 x5 x6 x7 x9 ((10 : Int32) - x3) x8 σ
    refine ag_iload_3 (q := 125) dX8_wolves_124 rfl ?_
    refine ag_goto (q := 132) dX8_wolves_125 rfl ?_
    refine ag_kill_8 ?_
    exact A_X8_wolves_b132 K hN  y88 hy88 (fun x1 x2 x3 x4 x5 x6 x7 x8 x9 σ => J_X8_wolves_b106  y88 k x1 x2 x3 x4 x5 x6 x7 x8 x9 σ) (fun x1 x2 x3 x4 x5 x6 x7 x8 x9 σ => ih x1 x2 x3 x4 x5 x6 x7 x8 x9 σ) x1 x2 x3 x4 x5 x6 x7 x9 x3 x8 σ
def J_X8_wolves_b88  : Nat → Int32 → Int32 → Int32 → Int32 → Int32 → Int32 → Int32 → Sg → Option (Int32 × Sg)
  | 0, _, _, _, _, _, _, _, _ => none
  | k + 1, x1, x2, x3, x4, x5, x6, x7, σ =>
    (if ((1 : Int32) <<< (x2 &&& 31)) ≤ x7 then (bd1 (J_X8_lowest x5 x6 x4 σ) fun r200 => (some (r200, σ))) else (bd2 (J_X8_asItIs  σ) fun r100 s100 => (J_X8_wolves_b106  (fun x1 x2 x3 x4 x5 x6 x7 σ => J_X8_wolves_b88   k x1 x2 x3 x4 x5 x6 x7 σ) FU x1 x2 x3 x4 x5 x6 x7 (1 : Int32) (0 : Int32) s100)))
set_option maxHeartbeats 4000000 in
theorem A_X8_wolves_b88 (K : KT) {N : Nat} (hN : NT ≤ N)  : ∀ (k : Nat) (x1 : Int32) (x2 : Int32) (x3 : Int32) (x4 : Int32) (x5 : Int32) (x6 : Int32) (x7 : Int32) (σ : Sg), AG K mX8_wolves N (fun a : Int32 × Sg => (some (.int a.1), N, R0, a.2)) (J_X8_wolves_b88   k x1 x2 x3 x4 x5 x6 x7 σ) 88 [some (.ref 141), some (.int x1), some (.int x2), some (.int x3), some (.int x4), some (.int x5), some (.int x6), some (.int x7), none, none] [] σ := by
  intro k
  induction k with
  | zero => intro x1 x2 x3 x4 x5 x6 x7 σ; exact ag_none
  | succ k ih =>
    intro x1 x2 x3 x4 x5 x6 x7 σ
    rw [J_X8_wolves_b88]
    refine ag_iload_7 (q := 90) dX8_wolves_88 rfl ?_
    refine ag_iconst (q := 91) (v := 1) dX8_wolves_90 rfl (by decide) ?_
    refine ag_iload_2 (q := 92) dX8_wolves_91 rfl ?_
    refine ag_ishl (q := 93) dX8_wolves_92 rfl ?_
    refine ag_icmp_ge (tgt := 194) (q := 96) dX8_wolves_93 rfl rfl ?_ ?_
    · refine ag_iload_5 (q := 196) dX8_wolves_194 rfl ?_
      refine ag_iload_6 (q := 198) dX8_wolves_196 rfl ?_
      refine ag_iload_4 (q := 200) dX8_wolves_198 rfl ?_
      refine ag_callS_pI (q := 203) (av := [.int _, .int _, .int _]) (rest := []) dX8_wolves_200 rfl lk8_292 (C_X8_lowest hN x5 x6 x4 _) (by decide) (Nat.le_of_ble_eq_true rfl) (fun _ => rfl) (Nat.le_of_ble_eq_true rfl) rfl (fun r200 e200 => ?_)
      exact ag_iret dX8_wolves_203 rfl rfl
    refine ag_iconst (q := 97) (v := 1) dX8_wolves_96 rfl (by decide) ?_
    refine ag_istore_8 (q := 99) dX8_wolves_97 rfl (Nat.le_of_ble_eq_true rfl) rfl ?_
    refine ag_aload_0 (q := 100) dX8_wolves_99 rfl ?_
    refine ag_callV_mU (q := 103) (av := []) (rest := []) dX8_wolves_100 rfl lk8_228 (C_X8_asItIs hN  _) (by decide) (Nat.le_of_ble_eq_true rfl) (Nat.lt_of_lt_of_le (by decide : 141 < NT) hN) (congrArg Prod.fst s_141) (by decide) (fun _ => rfl) (Nat.le_of_ble_eq_true rfl) rfl (fun r100 s100 e100 => ?_)
    refine ag_iconst (q := 104) (v := 0) dX8_wolves_103 rfl (by decide) ?_
    refine ag_istore_9 (q := 106) dX8_wolves_104 rfl (Nat.le_of_ble_eq_true rfl) rfl ?_
    exact A_X8_wolves_b106 K hN  (fun x1 x2 x3 x4 x5 x6 x7 σ => J_X8_wolves_b88   k x1 x2 x3 x4 x5 x6 x7 σ) (fun x1 x2 x3 x4 x5 x6 x7 σ => ih x1 x2 x3 x4 x5 x6 x7 σ) FU x1 x2 x3 x4 x5 x6 x7 (1 : Int32) (0 : Int32) s100
def J_X8_wolves_b66  : Nat → Int32 → Int32 → Int32 → Int32 → Int32 → Int32 → Int32 → Sg → Option (Int32 × Sg)
  | 0, _, _, _, _, _, _, _, _ => none
  | k + 1, x1, x2, x3, x4, x5, x6, x7, σ =>
    (if x2 ≤ x7 then (J_X8_wolves_b88   FU x1 x2 x3 x4 x5 x6 (0 : Int32) σ) else (J_X8_wolves_b66   k x1 x2 x3 x4 x5 (x6 * (10 : Int32)) (x7 + (1)) σ))
set_option maxHeartbeats 4000000 in
theorem A_X8_wolves_b66 (K : KT) {N : Nat} (hN : NT ≤ N)  : ∀ (k : Nat) (x1 : Int32) (x2 : Int32) (x3 : Int32) (x4 : Int32) (x5 : Int32) (x6 : Int32) (x7 : Int32) (σ : Sg), AG K mX8_wolves N (fun a : Int32 × Sg => (some (.int a.1), N, R0, a.2)) (J_X8_wolves_b66   k x1 x2 x3 x4 x5 x6 x7 σ) 66 [some (.ref 141), some (.int x1), some (.int x2), some (.int x3), some (.int x4), some (.int x5), some (.int x6), some (.int x7), none, none] [] σ := by
  intro k
  induction k with
  | zero => intro x1 x2 x3 x4 x5 x6 x7 σ; exact ag_none
  | succ k ih =>
    intro x1 x2 x3 x4 x5 x6 x7 σ
    rw [J_X8_wolves_b66]
    refine ag_iload_7 (q := 68) dX8_wolves_66 rfl ?_
    refine ag_iload_2 (q := 69) dX8_wolves_68 rfl ?_
    refine ag_icmp_ge (tgt := 85) (q := 72) dX8_wolves_69 rfl rfl ?_ ?_
    · refine ag_iconst (q := 86) (v := 0) dX8_wolves_85 rfl (by decide) ?_
      refine ag_istore_7 (q := 88) dX8_wolves_86 rfl (Nat.le_of_ble_eq_true rfl) rfl ?_
      exact A_X8_wolves_b88 K hN   FU x1 x2 x3 x4 x5 x6 (0 : Int32) σ
    refine ag_iload_6 (q := 74) dX8_wolves_72 rfl ?_
    refine ag_bipush (q := 76) (v := 10) dX8_wolves_74 rfl (by decide) ?_
    refine ag_imul (q := 77) dX8_wolves_76 rfl ?_
    refine ag_istore_6 (q := 79) dX8_wolves_77 rfl (Nat.le_of_ble_eq_true rfl) rfl ?_
    refine ag_iinc_7 (q := 82) (d := (1)) dX8_wolves_79 rfl (Nat.le_of_ble_eq_true rfl) rfl (by decide) ?_
    refine ag_goto (q := 66) dX8_wolves_82 rfl ?_
    exact ih x1 x2 x3 x4 x5 (x6 * (10 : Int32)) (x7 + (1)) σ
def J_X8_wolves (a1 : Int32) (a2 : Int32) (a3 : Int32) (a4 : Int32) (σ : Sg) : Option (Int32 × Sg) :=
  (bd1 (J_X8_isBeast a1 σ) fun r2 => (if r2 = 0 then (some ((-1 : Int32), σ)) else (bd1 (J_X8_in a2 (0 : Int32) (8 : Int32) σ) fun r12 => (if r12 = 0 then (some ((-1 : Int32), σ)) else (bd1 (J_X8_in a3 (0 : Int32) (10 : Int32) σ) fun r22 => (if r22 = 0 then (some ((-1 : Int32), σ)) else (bd1 (J_X8_in a4 (0 : Int32) (1 : Int32) σ) fun r32 => (if r32 = 0 then (some ((-1 : Int32), σ)) else (if inb ((37 : Int32) + a1) 54 = true then (if (σ 146 ((37 : Int32) + a1).toNatClampNeg) = (36 : Int32) then (some ((-2 : Int32), σ)) else (J_X8_wolves_b66   FU a1 a2 a3 a4 (0 : Int32) (1 : Int32) (0 : Int32) σ)) else none)))))))))
set_option maxHeartbeats 4000000 in
theorem A_X8_wolves (K : KT) {N : Nat} (hN : NT ≤ N) (a1 : Int32) (a2 : Int32) (a3 : Int32) (a4 : Int32) (σ : Sg) : AG K mX8_wolves N (fun a : Int32 × Sg => (some (.int a.1), N, R0, a.2)) (J_X8_wolves a1 a2 a3 a4 σ) 0 [some (.ref 141), some (.int a1), some (.int a2), some (.int a3), some (.int a4), none, none, none, none, none] [] σ := by
  unfold J_X8_wolves
  refine ag_aload_0 (q := 1) dX8_wolves_0 rfl ?_
  refine ag_iload_1 (q := 2) dX8_wolves_1 rfl ?_
  refine ag_callV_pI (q := 5) (av := [.int _]) (rest := []) dX8_wolves_2 rfl lk8_231 (C_X8_isBeast hN a1 _) (by decide) (Nat.le_of_ble_eq_true rfl) (Nat.lt_of_lt_of_le (by decide : 141 < NT) hN) (congrArg Prod.fst s_141) (by decide) (fun _ => rfl) (Nat.le_of_ble_eq_true rfl) rfl (fun r2 e2 => ?_)
  refine ag_if_eq (tgt := 38) (q := 8) dX8_wolves_5 rfl rfl ?_ ?_
  · refine ag_iconst (q := 39) (v := -1) dX8_wolves_38 rfl (by decide) ?_
    exact ag_iret dX8_wolves_39 rfl rfl
  refine ag_iload_2 (q := 9) dX8_wolves_8 rfl ?_
  refine ag_iconst (q := 10) (v := 0) dX8_wolves_9 rfl (by decide) ?_
  refine ag_bipush (q := 12) (v := 8) dX8_wolves_10 rfl (by decide) ?_
  refine ag_callS_pI (q := 15) (av := [.int _, .int _, .int _]) (rest := []) dX8_wolves_12 rfl lk8_115 (C_X8_in hN a2 (0 : Int32) (8 : Int32) _) (by decide) (Nat.le_of_ble_eq_true rfl) (fun _ => rfl) (Nat.le_of_ble_eq_true rfl) rfl (fun r12 e12 => ?_)
  refine ag_if_eq (tgt := 38) (q := 18) dX8_wolves_15 rfl rfl ?_ ?_
  · refine ag_iconst (q := 39) (v := -1) dX8_wolves_38 rfl (by decide) ?_
    exact ag_iret dX8_wolves_39 rfl rfl
  refine ag_iload_3 (q := 19) dX8_wolves_18 rfl ?_
  refine ag_iconst (q := 20) (v := 0) dX8_wolves_19 rfl (by decide) ?_
  refine ag_bipush (q := 22) (v := 10) dX8_wolves_20 rfl (by decide) ?_
  refine ag_callS_pI (q := 25) (av := [.int _, .int _, .int _]) (rest := []) dX8_wolves_22 rfl lk8_115 (C_X8_in hN a3 (0 : Int32) (10 : Int32) _) (by decide) (Nat.le_of_ble_eq_true rfl) (fun _ => rfl) (Nat.le_of_ble_eq_true rfl) rfl (fun r22 e22 => ?_)
  refine ag_if_eq (tgt := 38) (q := 28) dX8_wolves_25 rfl rfl ?_ ?_
  · refine ag_iconst (q := 39) (v := -1) dX8_wolves_38 rfl (by decide) ?_
    exact ag_iret dX8_wolves_39 rfl rfl
  refine ag_iload_4 (q := 30) dX8_wolves_28 rfl ?_
  refine ag_iconst (q := 31) (v := 0) dX8_wolves_30 rfl (by decide) ?_
  refine ag_iconst (q := 32) (v := 1) dX8_wolves_31 rfl (by decide) ?_
  refine ag_callS_pI (q := 35) (av := [.int _, .int _, .int _]) (rest := []) dX8_wolves_32 rfl lk8_115 (C_X8_in hN a4 (0 : Int32) (1 : Int32) _) (by decide) (Nat.le_of_ble_eq_true rfl) (fun _ => rfl) (Nat.le_of_ble_eq_true rfl) rfl (fun r32 e32 => ?_)
  refine ag_if_ne (tgt := 40) (q := 38) dX8_wolves_35 rfl rfl ?_ ?_
  · refine ag_aload_0 (q := 41) dX8_wolves_40 rfl ?_
    refine ag_getR (q := 44) dX8_wolves_41 rfl fl8_22 (Nat.lt_of_lt_of_le (by decide : 141 < NT) hN) (congrArg Prod.fst s_141) rfl r_141_10 ?_
    refine ag_bipush (q := 46) (v := 37) dX8_wolves_44 rfl (by decide) ?_
    refine ag_iload_1 (q := 47) dX8_wolves_46 rfl ?_
    refine ag_iadd (q := 48) dX8_wolves_47 rfl ?_
    refine ag_iald (q := 49) dX8_wolves_48 rfl (Nat.lt_of_lt_of_le (by decide : 146 < NT) hN) s_146 ?_
    refine ag_bipush (q := 51) (v := 36) dX8_wolves_49 rfl (by decide) ?_
    refine ag_icmp_ne (tgt := 57) (q := 54) dX8_wolves_51 rfl rfl ?_ ?_
    · refine ag_iconst (q := 58) (v := 0) dX8_wolves_57 rfl (by decide) ?_
      refine ag_istore_5 (q := 60) dX8_wolves_58 rfl (Nat.le_of_ble_eq_true rfl) rfl ?_
      refine ag_iconst (q := 61) (v := 1) dX8_wolves_60 rfl (by decide) ?_
      refine ag_istore_6 (q := 63) dX8_wolves_61 rfl (Nat.le_of_ble_eq_true rfl) rfl ?_
      refine ag_iconst (q := 64) (v := 0) dX8_wolves_63 rfl (by decide) ?_
      refine ag_istore_7 (q := 66) dX8_wolves_64 rfl (Nat.le_of_ble_eq_true rfl) rfl ?_
      exact A_X8_wolves_b66 K hN   FU a1 a2 a3 a4 (0 : Int32) (1 : Int32) (0 : Int32) σ
    refine ag_bipush (q := 56) (v := -2) dX8_wolves_54 rfl (by decide) ?_
    exact ag_iret dX8_wolves_56 rfl rfl
  refine ag_iconst (q := 39) (v := -1) dX8_wolves_38 rfl (by decide) ?_
  exact ag_iret dX8_wolves_39 rfl rfl
theorem C_X8_wolves {N : Nat} (hN : NT ≤ N) (a1 : Int32) (a2 : Int32) (a3 : Int32) (a4 : Int32) (σ : Sg) : ∀ r s', J_X8_wolves a1 a2 a3 a4 σ = some (r, s') → AMc yX8_wolves mX8_wolves [.ref 141, .int a1, .int a2, .int a3, .int a4] N R0 σ (some (.int r), N, R0, s') := fun r s' e => AMc.of (L := [some (.ref 141), some (.int a1), some (.int a2), some (.int a3), some (.int a4), none, none, none, none, none]) (by decide) rfl (fun _ => rfl) (fun _ => Nat.le_of_ble_eq_true rfl) (Nat.le_refl _) (fun K => A_X8_wolves K hN a1 a2 a3 a4 σ _ e)
def J_X8_season_b131  (x3 : Int32) (σ : Sg) : Option (Int32 × Sg) :=
  (if x3 = 0 then (bd1 (J_X8_worth  σ) fun r138 => (some (((100 : Int32) + r138), σ))) else (bd1 (J_X8_onMeadow (0 : Int32) σ) fun r147 => (bd1 (J_X8_onMeadow (1 : Int32) σ) fun r152 => (some ((r147 + r152), σ)))))
set_option maxHeartbeats 4000000 in
theorem A_X8_season_b131 (K : KT) {N : Nat} (hN : NT ≤ N)  (x3 : Int32) (σ : Sg) : AG K mX8_season N (fun a : Int32 × Sg => (some (.int a.1), N, R0, a.2)) (J_X8_season_b131   x3 σ) 131 [some (.ref 141), none, none, some (.int x3), none, none, none, none, none] [] σ := by
  unfold J_X8_season_b131
  refine ag_iload_3 (q := 132) dX8_season_131 rfl ?_
  refine ag_if_ne (tgt := 145) (q := 135) dX8_season_132 rfl rfl ?_ ?_
  · refine ag_aload_0 (q := 146) dX8_season_145 rfl ?_
    refine ag_iconst (q := 147) (v := 0) dX8_season_146 rfl (by decide) ?_
    refine ag_callV_pI (q := 150) (av := [.int _]) (rest := []) dX8_season_147 rfl lk8_267 (C_X8_onMeadow hN (0 : Int32) _) (by decide) (Nat.le_of_ble_eq_true rfl) (Nat.lt_of_lt_of_le (by decide : 141 < NT) hN) (congrArg Prod.fst s_141) (by decide) (fun _ => rfl) (Nat.le_of_ble_eq_true rfl) rfl (fun r147 e147 => ?_)
    refine ag_aload_0 (q := 151) dX8_season_150 rfl ?_
    refine ag_iconst (q := 152) (v := 1) dX8_season_151 rfl (by decide) ?_
    refine ag_callV_pI (q := 155) (av := [.int _]) (rest := [.int _]) dX8_season_152 rfl lk8_267 (C_X8_onMeadow hN (1 : Int32) _) (by decide) (Nat.le_of_ble_eq_true rfl) (Nat.lt_of_lt_of_le (by decide : 141 < NT) hN) (congrArg Prod.fst s_141) (by decide) (fun _ => rfl) (Nat.le_of_ble_eq_true rfl) rfl (fun r152 e152 => ?_)
    refine ag_iadd (q := 156) dX8_season_155 rfl ?_
    exact ag_iret dX8_season_156 rfl rfl
  refine ag_bipush (q := 137) (v := 100) dX8_season_135 rfl (by decide) ?_
  refine ag_aload_0 (q := 138) dX8_season_137 rfl ?_
  refine ag_callV_pI (q := 141) (av := []) (rest := [.int _]) dX8_season_138 rfl lk8_273 (C_X8_worth hN  _) (by decide) (Nat.le_of_ble_eq_true rfl) (Nat.lt_of_lt_of_le (by decide : 141 < NT) hN) (congrArg Prod.fst s_141) (by decide) (fun _ => rfl) (Nat.le_of_ble_eq_true rfl) rfl (fun r138 e138 => ?_)
  refine ag_iadd (q := 142) dX8_season_141 rfl ?_
  refine ag_goto (q := 156) dX8_season_142 rfl ?_
  exact ag_iret dX8_season_156 rfl rfl
def J_X8_season_b39  : Nat → Int32 → Int32 → Int32 → Int32 → Sg → Option (Int32 × Sg)
  | 0, _, _, _, _, _ => none
  | k + 1, x1, x2, x3, x4, σ =>
    (if x2 ≤ x4 then (J_X8_season_b131   x3 σ) else (bd1 (J_X8_lost  σ) fun r46 => (if r46 = 0 then (if (σ 141 3) = 0 then none else (bd2 (J_X8_canDrive (((10 : Int32) * (rmI (((rmL (((((7919 : Int64) * (x1.toInt64)) + ((6151 : Int64) * (x4.toInt64))) + (1 : Int64)) * ((((7919 : Int64) * (x1.toInt64)) + ((6151 : Int64) * (x4.toInt64))) + (1 : Int64))) (65521 : Int64)).toInt32) / (8 : Int32)) (σ 141 3))) + (rmI (((rmL (((((7919 : Int64) * (x1.toInt64)) + ((6151 : Int64) * (x4.toInt64))) + (1 : Int64)) * ((((7919 : Int64) * (x1.toInt64)) + ((6151 : Int64) * (x4.toInt64))) + (1 : Int64))) (65521 : Int64)).toInt32) / (64 : Int32)) (4 : Int32))) σ) fun r109 s109 => (if r109 = 0 then (bd2 (J_X8_goesBy (99 : Int32) s109) fun r122 s122 => (J_X8_season_b39   k x1 x2 x3 (x4 + (1)) s122)) else (bd2 (J_X8_goesBy (((10 : Int32) * (rmI (((rmL (((((7919 : Int64) * (x1.toInt64)) + ((6151 : Int64) * (x4.toInt64))) + (1 : Int64)) * ((((7919 : Int64) * (x1.toInt64)) + ((6151 : Int64) * (x4.toInt64))) + (1 : Int64))) (65521 : Int64)).toInt32) / (8 : Int32)) (σ 141 3))) + (rmI (((rmL (((((7919 : Int64) * (x1.toInt64)) + ((6151 : Int64) * (x4.toInt64))) + (1 : Int64)) * ((((7919 : Int64) * (x1.toInt64)) + ((6151 : Int64) * (x4.toInt64))) + (1 : Int64))) (65521 : Int64)).toInt32) / (64 : Int32)) (4 : Int32))) s109) fun r122 s122 => (J_X8_season_b39   k x1 x2 x3 (x4 + (1)) s122))))) else (J_X8_season_b131   x3 σ))))
set_option maxHeartbeats 4000000 in
theorem A_X8_season_b39 (K : KT) {N : Nat} (hN : NT ≤ N)  : ∀ (k : Nat) (x1 : Int32) (x2 : Int32) (x3 : Int32) (x4 : Int32) (σ : Sg), AG K mX8_season N (fun a : Int32 × Sg => (some (.int a.1), N, R0, a.2)) (J_X8_season_b39   k x1 x2 x3 x4 σ) 39 [some (.ref 141), some (.int x1), some (.int x2), some (.int x3), some (.int x4), none, none, none, none] [] σ := by
  intro k
  induction k with
  | zero => intro x1 x2 x3 x4 σ; exact ag_none
  | succ k ih =>
    intro x1 x2 x3 x4 σ
    rw [J_X8_season_b39]
    refine ag_iload_4 (q := 41) dX8_season_39 rfl ?_
    refine ag_iload_2 (q := 42) dX8_season_41 rfl ?_
    refine ag_icmp_ge (tgt := 131) (q := 45) dX8_season_42 rfl rfl ?_ ?_
    · refine ag_kill_1 ?_
      refine ag_kill_2 ?_
      refine ag_kill_4 ?_
      exact A_X8_season_b131 K hN   x3 σ
    refine ag_aload_0 (q := 46) dX8_season_45 rfl ?_
    refine ag_callV_pI (q := 49) (av := []) (rest := []) dX8_season_46 rfl lk8_222 (C_X8_lost hN  _) (by decide) (Nat.le_of_ble_eq_true rfl) (Nat.lt_of_lt_of_le (by decide : 141 < NT) hN) (congrArg Prod.fst s_141) (by decide) (fun _ => rfl) (Nat.le_of_ble_eq_true rfl) rfl (fun r46 e46 => ?_)
    refine ag_if_ne (tgt := 131) (q := 52) dX8_season_49 rfl rfl ?_ ?_
    · refine ag_kill_1 ?_
      refine ag_kill_2 ?_
      refine ag_kill_4 ?_
      exact A_X8_season_b131 K hN   x3 σ
    refine ag_ldc2 (q := 55) dX8_season_52 rfl kc8_296 ?_
    refine ag_iload_1 (q := 56) dX8_season_55 rfl ?_
    refine ag_i2l (q := 57) dX8_season_56 rfl ?_
    refine ag_lmul (q := 58) dX8_season_57 rfl ?_
    refine ag_ldc2 (q := 61) dX8_season_58 rfl kc8_298 ?_
    refine ag_iload_4 (q := 63) dX8_season_61 rfl ?_
    refine ag_i2l (q := 64) dX8_season_63 rfl ?_
    refine ag_lmul (q := 65) dX8_season_64 rfl ?_
    refine ag_ladd (q := 66) dX8_season_65 rfl ?_
    refine ag_lconst (q := 67) (v := 1) dX8_season_66 rfl (by decide) ?_
    refine ag_ladd (q := 68) dX8_season_67 rfl ?_
    refine ag_lstore_5 (q := 70) dX8_season_68 rfl (Nat.le_of_ble_eq_true rfl) rfl ?_
    refine ag_lload_5 (q := 72) dX8_season_70 rfl ?_
    refine ag_lload_5 (q := 74) dX8_season_72 rfl ?_
    refine ag_lmul (q := 75) dX8_season_74 rfl ?_
    refine ag_ldc2 (q := 78) dX8_season_75 rfl kc8_300 ?_
    refine ag_lremK (q := 79) dX8_season_78 rfl (by decide) ?_
    refine ag_l2i (q := 80) dX8_season_79 rfl ?_
    refine ag_istore_7 (q := 82) dX8_season_80 rfl (Nat.le_of_ble_eq_true rfl) rfl ?_
    refine ag_bipush (q := 84) (v := 10) dX8_season_82 rfl (by decide) ?_
    refine ag_iload_7 (q := 86) dX8_season_84 rfl ?_
    refine ag_bipush (q := 88) (v := 8) dX8_season_86 rfl (by decide) ?_
    refine ag_idivK (q := 89) dX8_season_88 rfl (by decide) ?_
    refine ag_aload_0 (q := 90) dX8_season_89 rfl ?_
    refine ag_getI (q := 93) dX8_season_90 rfl fl8_112 (Nat.lt_of_lt_of_le (by decide : 141 < NT) hN) (congrArg Prod.fst s_141) rfl ?_
    refine ag_irem (q := 94) dX8_season_93 rfl ?_
    refine ag_imul (q := 95) dX8_season_94 rfl ?_
    refine ag_iload_7 (q := 97) dX8_season_95 rfl ?_
    refine ag_bipush (q := 99) (v := 64) dX8_season_97 rfl (by decide) ?_
    refine ag_idivK (q := 100) dX8_season_99 rfl (by decide) ?_
    refine ag_iconst (q := 101) (v := 4) dX8_season_100 rfl (by decide) ?_
    refine ag_iremK (q := 102) dX8_season_101 rfl (by decide) ?_
    refine ag_iadd (q := 103) dX8_season_102 rfl ?_
    refine ag_istore_8 (q := 105) dX8_season_103 rfl (Nat.le_of_ble_eq_true rfl) rfl ?_
    refine ag_aload_0 (q := 106) dX8_season_105 rfl ?_
    refine ag_aload_0 (q := 107) dX8_season_106 rfl ?_
    refine ag_iload_8 (q := 109) dX8_season_107 rfl ?_
    refine ag_callV_mI (q := 112) (av := [.int _]) (rest := [.ref _]) dX8_season_109 rfl lk8_243 (C_X8_canDrive hN (((10 : Int32) * (rmI (((rmL (((((7919 : Int64) * (x1.toInt64)) + ((6151 : Int64) * (x4.toInt64))) + (1 : Int64)) * ((((7919 : Int64) * (x1.toInt64)) + ((6151 : Int64) * (x4.toInt64))) + (1 : Int64))) (65521 : Int64)).toInt32) / (8 : Int32)) (σ 141 3))) + (rmI (((rmL (((((7919 : Int64) * (x1.toInt64)) + ((6151 : Int64) * (x4.toInt64))) + (1 : Int64)) * ((((7919 : Int64) * (x1.toInt64)) + ((6151 : Int64) * (x4.toInt64))) + (1 : Int64))) (65521 : Int64)).toInt32) / (64 : Int32)) (4 : Int32))) _) (by decide) (Nat.le_of_ble_eq_true rfl) (Nat.lt_of_lt_of_le (by decide : 141 < NT) hN) (congrArg Prod.fst s_141) (by decide) (fun _ => rfl) (Nat.le_of_ble_eq_true rfl) rfl (fun r109 s109 e109 => ?_)
    refine ag_if_eq (tgt := 120) (q := 115) dX8_season_112 rfl rfl ?_ ?_
    · refine ag_bipush (q := 122) (v := 99) dX8_season_120 rfl (by decide) ?_
      refine ag_callV_mU (q := 125) (av := [.int _]) (rest := []) dX8_season_122 rfl lk8_240 (C_X8_goesBy hN (99 : Int32) _) (by decide) (Nat.le_of_ble_eq_true rfl) (Nat.lt_of_lt_of_le (by decide : 141 < NT) hN) (congrArg Prod.fst s_141) (by decide) (fun _ => rfl) (Nat.le_of_ble_eq_true rfl) rfl (fun r122 s122 e122 => ?_)
      refine ag_iinc_4 (q := 128) (d := (1)) dX8_season_125 rfl (Nat.le_of_ble_eq_true rfl) rfl (by decide) ?_
      refine ag_goto (q := 39) dX8_season_128 rfl ?_
      refine ag_kill_5 ?_
      refine ag_kill_7 ?_
      refine ag_kill_8 ?_
      exact ih x1 x2 x3 (x4 + (1)) s122
    refine ag_iload_8 (q := 117) dX8_season_115 rfl ?_
    refine ag_goto (q := 122) dX8_season_117 rfl ?_
    refine ag_callV_mU (q := 125) (av := [.int _]) (rest := []) dX8_season_122 rfl lk8_240 (C_X8_goesBy hN (((10 : Int32) * (rmI (((rmL (((((7919 : Int64) * (x1.toInt64)) + ((6151 : Int64) * (x4.toInt64))) + (1 : Int64)) * ((((7919 : Int64) * (x1.toInt64)) + ((6151 : Int64) * (x4.toInt64))) + (1 : Int64))) (65521 : Int64)).toInt32) / (8 : Int32)) (σ 141 3))) + (rmI (((rmL (((((7919 : Int64) * (x1.toInt64)) + ((6151 : Int64) * (x4.toInt64))) + (1 : Int64)) * ((((7919 : Int64) * (x1.toInt64)) + ((6151 : Int64) * (x4.toInt64))) + (1 : Int64))) (65521 : Int64)).toInt32) / (64 : Int32)) (4 : Int32))) _) (by decide) (Nat.le_of_ble_eq_true rfl) (Nat.lt_of_lt_of_le (by decide : 141 < NT) hN) (congrArg Prod.fst s_141) (by decide) (fun _ => rfl) (Nat.le_of_ble_eq_true rfl) rfl (fun r122 s122 e122 => ?_)
    refine ag_iinc_4 (q := 128) (d := (1)) dX8_season_125 rfl (Nat.le_of_ble_eq_true rfl) rfl (by decide) ?_
    refine ag_goto (q := 39) dX8_season_128 rfl ?_
    refine ag_kill_5 ?_
    refine ag_kill_7 ?_
    refine ag_kill_8 ?_
    exact ih x1 x2 x3 (x4 + (1)) s122
def J_X8_season (a1 : Int32) (a2 : Int32) (a3 : Int32) (σ : Sg) : Option (Int32 × Sg) :=
  (bd1 (J_X8_in a1 (0 : Int32) (9999 : Int32) σ) fun r5 => (if r5 = 0 then (some ((-1 : Int32), σ)) else (bd1 (J_X8_in a2 (1 : Int32) (60 : Int32) σ) fun r15 => (if r15 = 0 then (some ((-1 : Int32), σ)) else (bd1 (J_X8_in a3 (0 : Int32) (1 : Int32) σ) fun r24 => (if r24 = 0 then (some ((-1 : Int32), σ)) else (bd2 (J_X8_asItIs  σ) fun r33 s33 => (J_X8_season_b39   FU a1 a2 a3 (0 : Int32) s33))))))))
set_option maxHeartbeats 4000000 in
theorem A_X8_season (K : KT) {N : Nat} (hN : NT ≤ N) (a1 : Int32) (a2 : Int32) (a3 : Int32) (σ : Sg) : AG K mX8_season N (fun a : Int32 × Sg => (some (.int a.1), N, R0, a.2)) (J_X8_season a1 a2 a3 σ) 0 [some (.ref 141), some (.int a1), some (.int a2), some (.int a3), none, none, none, none, none] [] σ := by
  unfold J_X8_season
  refine ag_iload_1 (q := 1) dX8_season_0 rfl ?_
  refine ag_iconst (q := 2) (v := 0) dX8_season_1 rfl (by decide) ?_
  refine ag_sipush (q := 5) (v := 9999) dX8_season_2 rfl (by decide) ?_
  refine ag_callS_pI (q := 8) (av := [.int _, .int _, .int _]) (rest := []) dX8_season_5 rfl lk8_115 (C_X8_in hN a1 (0 : Int32) (9999 : Int32) _) (by decide) (Nat.le_of_ble_eq_true rfl) (fun _ => rfl) (Nat.le_of_ble_eq_true rfl) rfl (fun r5 e5 => ?_)
  refine ag_if_eq (tgt := 30) (q := 11) dX8_season_8 rfl rfl ?_ ?_
  · refine ag_iconst (q := 31) (v := -1) dX8_season_30 rfl (by decide) ?_
    exact ag_iret dX8_season_31 rfl rfl
  refine ag_iload_2 (q := 12) dX8_season_11 rfl ?_
  refine ag_iconst (q := 13) (v := 1) dX8_season_12 rfl (by decide) ?_
  refine ag_bipush (q := 15) (v := 60) dX8_season_13 rfl (by decide) ?_
  refine ag_callS_pI (q := 18) (av := [.int _, .int _, .int _]) (rest := []) dX8_season_15 rfl lk8_115 (C_X8_in hN a2 (1 : Int32) (60 : Int32) _) (by decide) (Nat.le_of_ble_eq_true rfl) (fun _ => rfl) (Nat.le_of_ble_eq_true rfl) rfl (fun r15 e15 => ?_)
  refine ag_if_eq (tgt := 30) (q := 21) dX8_season_18 rfl rfl ?_ ?_
  · refine ag_iconst (q := 31) (v := -1) dX8_season_30 rfl (by decide) ?_
    exact ag_iret dX8_season_31 rfl rfl
  refine ag_iload_3 (q := 22) dX8_season_21 rfl ?_
  refine ag_iconst (q := 23) (v := 0) dX8_season_22 rfl (by decide) ?_
  refine ag_iconst (q := 24) (v := 1) dX8_season_23 rfl (by decide) ?_
  refine ag_callS_pI (q := 27) (av := [.int _, .int _, .int _]) (rest := []) dX8_season_24 rfl lk8_115 (C_X8_in hN a3 (0 : Int32) (1 : Int32) _) (by decide) (Nat.le_of_ble_eq_true rfl) (fun _ => rfl) (Nat.le_of_ble_eq_true rfl) rfl (fun r24 e24 => ?_)
  refine ag_if_ne (tgt := 32) (q := 30) dX8_season_27 rfl rfl ?_ ?_
  · refine ag_aload_0 (q := 33) dX8_season_32 rfl ?_
    refine ag_callV_mU (q := 36) (av := []) (rest := []) dX8_season_33 rfl lk8_228 (C_X8_asItIs hN  _) (by decide) (Nat.le_of_ble_eq_true rfl) (Nat.lt_of_lt_of_le (by decide : 141 < NT) hN) (congrArg Prod.fst s_141) (by decide) (fun _ => rfl) (Nat.le_of_ble_eq_true rfl) rfl (fun r33 s33 e33 => ?_)
    refine ag_iconst (q := 37) (v := 0) dX8_season_36 rfl (by decide) ?_
    refine ag_istore_4 (q := 39) dX8_season_37 rfl (Nat.le_of_ble_eq_true rfl) rfl ?_
    exact A_X8_season_b39 K hN   FU a1 a2 a3 (0 : Int32) s33
  refine ag_iconst (q := 31) (v := -1) dX8_season_30 rfl (by decide) ?_
  exact ag_iret dX8_season_31 rfl rfl
theorem C_X8_season {N : Nat} (hN : NT ≤ N) (a1 : Int32) (a2 : Int32) (a3 : Int32) (σ : Sg) : ∀ r s', J_X8_season a1 a2 a3 σ = some (r, s') → AMc yX8_season mX8_season [.ref 141, .int a1, .int a2, .int a3] N R0 σ (some (.int r), N, R0, s') := fun r s' e => AMc.of (L := [some (.ref 141), some (.int a1), some (.int a2), some (.int a3), none, none, none, none, none]) (by decide) rfl (fun _ => rfl) (fun _ => Nat.le_of_ble_eq_true rfl) (Nat.le_refl _) (fun K => A_X8_season K hN a1 a2 a3 σ _ e)
def J_X8_keep  (σ : Sg) : Option (Int32 × Sg) :=
  (if (σ 141 14) = (2 : Int32) then (some ((-3 : Int32), σ)) else (bd2 (J_X8_copies 149 ((54 : Int32) * (σ 141 14)) 146 (0 : Int32) (54 : Int32) σ) fun r29 s29 => (some (((up s29 141 14 ((s29 141 14) + (1 : Int32))) 141 14), (up s29 141 14 ((s29 141 14) + (1 : Int32)))))))
set_option maxHeartbeats 4000000 in
theorem A_X8_keep (K : KT) {N : Nat} (hN : NT ≤ N)  (σ : Sg) : AG K mX8_keep N (fun a : Int32 × Sg => (some (.int a.1), N, R0, a.2)) (J_X8_keep  σ) 0 [some (.ref 141)] [] σ := by
  unfold J_X8_keep
  refine ag_aload_0 (q := 1) dX8_keep_0 rfl ?_
  refine ag_getI (q := 4) dX8_keep_1 rfl fl8_178 (Nat.lt_of_lt_of_le (by decide : 141 < NT) hN) (congrArg Prod.fst s_141) rfl ?_
  refine ag_iconst (q := 5) (v := 2) dX8_keep_4 rfl (by decide) ?_
  refine ag_icmp_ne (tgt := 11) (q := 8) dX8_keep_5 rfl rfl ?_ ?_
  · refine ag_aload_0 (q := 12) dX8_keep_11 rfl ?_
    refine ag_getR (q := 15) dX8_keep_12 rfl fl8_31 (Nat.lt_of_lt_of_le (by decide : 141 < NT) hN) (congrArg Prod.fst s_141) rfl r_141_15 ?_
    refine ag_bipush (q := 17) (v := 54) dX8_keep_15 rfl (by decide) ?_
    refine ag_aload_0 (q := 18) dX8_keep_17 rfl ?_
    refine ag_getI (q := 21) dX8_keep_18 rfl fl8_178 (Nat.lt_of_lt_of_le (by decide : 141 < NT) hN) (congrArg Prod.fst s_141) rfl ?_
    refine ag_imul (q := 22) dX8_keep_21 rfl ?_
    refine ag_aload_0 (q := 23) dX8_keep_22 rfl ?_
    refine ag_getR (q := 26) dX8_keep_23 rfl fl8_22 (Nat.lt_of_lt_of_le (by decide : 141 < NT) hN) (congrArg Prod.fst s_141) rfl r_141_10 ?_
    refine ag_iconst (q := 27) (v := 0) dX8_keep_26 rfl (by decide) ?_
    refine ag_bipush (q := 29) (v := 54) dX8_keep_27 rfl (by decide) ?_
    refine ag_callS_mU (q := 32) (av := [.ref _, .int _, .ref _, .int _, .int _]) (rest := []) dX8_keep_29 rfl lk8_162 (C_X8_copies hN 149 (by decide) ((54 : Int32) * (σ 141 14)) 146 (by decide) (0 : Int32) (54 : Int32) _) (by decide) (Nat.le_of_ble_eq_true rfl) (fun _ => rfl) (Nat.le_of_ble_eq_true rfl) rfl (fun r29 s29 e29 => ?_)
    refine ag_aload_0 (q := 33) dX8_keep_32 rfl ?_
    refine ag_dup (q := 34) dX8_keep_33 rfl rfl ?_
    refine ag_getI (q := 37) dX8_keep_34 rfl fl8_178 (Nat.lt_of_lt_of_le (by decide : 141 < NT) hN) (congrArg Prod.fst s_141) rfl ?_
    refine ag_iconst (q := 38) (v := 1) dX8_keep_37 rfl (by decide) ?_
    refine ag_iadd (q := 39) dX8_keep_38 rfl ?_
    refine ag_putI (q := 42) dX8_keep_39 rfl fl8_178 (Nat.lt_of_lt_of_le (by decide : 141 < NT) hN) (congrArg Prod.fst s_141) rfl ?_
    refine ag_aload_0 (q := 43) dX8_keep_42 rfl ?_
    refine ag_getI (q := 46) dX8_keep_43 rfl fl8_178 (Nat.lt_of_lt_of_le (by decide : 141 < NT) hN) (congrArg Prod.fst s_141) rfl ?_
    exact ag_iret dX8_keep_46 rfl rfl
  refine ag_bipush (q := 10) (v := -3) dX8_keep_8 rfl (by decide) ?_
  exact ag_iret dX8_keep_10 rfl rfl
theorem C_X8_keep {N : Nat} (hN : NT ≤ N)  (σ : Sg) : ∀ r s', J_X8_keep  σ = some (r, s') → AMc yX8_keep mX8_keep [.ref 141] N R0 σ (some (.int r), N, R0, s') := fun r s' e => AMc.of (L := [some (.ref 141)]) (by decide) rfl (fun _ => rfl) (fun _ => Nat.le_of_ble_eq_true rfl) (Nat.le_refl _) (fun K => A_X8_keep K hN  σ _ e)
def J_X8_back  (σ : Sg) : Option (Int32 × Sg) :=
  (if (σ 141 14) = 0 then (some ((-2 : Int32), σ)) else (bd2 (J_X8_copies 146 (0 : Int32) 149 ((54 : Int32) * ((up σ 141 14 ((σ 141 14) - (1 : Int32))) 141 14)) (54 : Int32) (up σ 141 14 ((σ 141 14) - (1 : Int32)))) fun r38 s38 => (some (((up s38 141 11 (0 : Int32)) 141 14), (up s38 141 11 (0 : Int32))))))
set_option maxHeartbeats 4000000 in
theorem A_X8_back (K : KT) {N : Nat} (hN : NT ≤ N)  (σ : Sg) : AG K mX8_back N (fun a : Int32 × Sg => (some (.int a.1), N, R0, a.2)) (J_X8_back  σ) 0 [some (.ref 141)] [] σ := by
  unfold J_X8_back
  refine ag_aload_0 (q := 1) dX8_back_0 rfl ?_
  refine ag_getI (q := 4) dX8_back_1 rfl fl8_178 (Nat.lt_of_lt_of_le (by decide : 141 < NT) hN) (congrArg Prod.fst s_141) rfl ?_
  refine ag_if_ne (tgt := 10) (q := 7) dX8_back_4 rfl rfl ?_ ?_
  · refine ag_aload_0 (q := 11) dX8_back_10 rfl ?_
    refine ag_dup (q := 12) dX8_back_11 rfl rfl ?_
    refine ag_getI (q := 15) dX8_back_12 rfl fl8_178 (Nat.lt_of_lt_of_le (by decide : 141 < NT) hN) (congrArg Prod.fst s_141) rfl ?_
    refine ag_iconst (q := 16) (v := 1) dX8_back_15 rfl (by decide) ?_
    refine ag_isub (q := 17) dX8_back_16 rfl ?_
    refine ag_putI (q := 20) dX8_back_17 rfl fl8_178 (Nat.lt_of_lt_of_le (by decide : 141 < NT) hN) (congrArg Prod.fst s_141) rfl ?_
    refine ag_aload_0 (q := 21) dX8_back_20 rfl ?_
    refine ag_getR (q := 24) dX8_back_21 rfl fl8_22 (Nat.lt_of_lt_of_le (by decide : 141 < NT) hN) (congrArg Prod.fst s_141) rfl r_141_10 ?_
    refine ag_iconst (q := 25) (v := 0) dX8_back_24 rfl (by decide) ?_
    refine ag_aload_0 (q := 26) dX8_back_25 rfl ?_
    refine ag_getR (q := 29) dX8_back_26 rfl fl8_31 (Nat.lt_of_lt_of_le (by decide : 141 < NT) hN) (congrArg Prod.fst s_141) rfl r_141_15 ?_
    refine ag_bipush (q := 31) (v := 54) dX8_back_29 rfl (by decide) ?_
    refine ag_aload_0 (q := 32) dX8_back_31 rfl ?_
    refine ag_getI (q := 35) dX8_back_32 rfl fl8_178 (Nat.lt_of_lt_of_le (by decide : 141 < NT) hN) (congrArg Prod.fst s_141) rfl ?_
    refine ag_imul (q := 36) dX8_back_35 rfl ?_
    refine ag_bipush (q := 38) (v := 54) dX8_back_36 rfl (by decide) ?_
    refine ag_callS_mU (q := 41) (av := [.ref _, .int _, .ref _, .int _, .int _]) (rest := []) dX8_back_38 rfl lk8_162 (C_X8_copies hN 146 (by decide) (0 : Int32) 149 (by decide) ((54 : Int32) * ((up σ 141 14 ((σ 141 14) - (1 : Int32))) 141 14)) (54 : Int32) _) (by decide) (Nat.le_of_ble_eq_true rfl) (fun _ => rfl) (Nat.le_of_ble_eq_true rfl) rfl (fun r38 s38 e38 => ?_)
    refine ag_aload_0 (q := 42) dX8_back_41 rfl ?_
    refine ag_iconst (q := 43) (v := 0) dX8_back_42 rfl (by decide) ?_
    refine ag_putI (q := 46) dX8_back_43 rfl fl8_175 (Nat.lt_of_lt_of_le (by decide : 141 < NT) hN) (congrArg Prod.fst s_141) rfl ?_
    refine ag_aload_0 (q := 47) dX8_back_46 rfl ?_
    refine ag_getI (q := 50) dX8_back_47 rfl fl8_178 (Nat.lt_of_lt_of_le (by decide : 141 < NT) hN) (congrArg Prod.fst s_141) rfl ?_
    exact ag_iret dX8_back_50 rfl rfl
  refine ag_bipush (q := 9) (v := -2) dX8_back_7 rfl (by decide) ?_
  exact ag_iret dX8_back_9 rfl rfl
theorem C_X8_back {N : Nat} (hN : NT ≤ N)  (σ : Sg) : ∀ r s', J_X8_back  σ = some (r, s') → AMc yX8_back mX8_back [.ref 141] N R0 σ (some (.int r), N, R0, s') := fun r s' e => AMc.of (L := [some (.ref 141)]) (by decide) rfl (fun _ => rfl) (fun _ => Nat.le_of_ble_eq_true rfl) (Nat.le_refl _) (fun K => A_X8_back K hN  σ _ e)
def J_X8_count_b123  : Nat → Int32 → Int32 → Sg → Option (Int32 × Sg)
  | 0, _, _, _ => none
  | k + 1, x2, x3, σ =>
    (if (σ 141 0) ≤ x3 then (some (x2, σ)) else (if inb ((1 : Int32) + x3) 54 = true then (J_X8_count_b123   k (x2 + (σ 146 ((1 : Int32) + x3).toNatClampNeg)) (x3 + (1)) σ) else none))
set_option maxHeartbeats 4000000 in
theorem A_X8_count_b123 (K : KT) {N : Nat} (hN : NT ≤ N)  : ∀ (k : Nat) (x2 : Int32) (x3 : Int32) (σ : Sg), AG K mX8_count N (fun a : Int32 × Sg => (some (.int a.1), N, R0, a.2)) (J_X8_count_b123   k x2 x3 σ) 123 [some (.ref 141), none, some (.int x2), some (.int x3)] [] σ := by
  intro k
  induction k with
  | zero => intro x2 x3 σ; exact ag_none
  | succ k ih =>
    intro x2 x3 σ
    rw [J_X8_count_b123]
    refine ag_iload_3 (q := 124) dX8_count_123 rfl ?_
    refine ag_aload_0 (q := 125) dX8_count_124 rfl ?_
    refine ag_getI (q := 128) dX8_count_125 rfl fl8_119 (Nat.lt_of_lt_of_le (by decide : 141 < NT) hN) (congrArg Prod.fst s_141) rfl ?_
    refine ag_icmp_ge (tgt := 148) (q := 131) dX8_count_128 rfl rfl ?_ ?_
    · refine ag_iload_2 (q := 149) dX8_count_148 rfl ?_
      exact ag_iret dX8_count_149 rfl rfl
    refine ag_iload_2 (q := 132) dX8_count_131 rfl ?_
    refine ag_aload_0 (q := 133) dX8_count_132 rfl ?_
    refine ag_getR (q := 136) dX8_count_133 rfl fl8_22 (Nat.lt_of_lt_of_le (by decide : 141 < NT) hN) (congrArg Prod.fst s_141) rfl r_141_10 ?_
    refine ag_iconst (q := 137) (v := 1) dX8_count_136 rfl (by decide) ?_
    refine ag_iload_3 (q := 138) dX8_count_137 rfl ?_
    refine ag_iadd (q := 139) dX8_count_138 rfl ?_
    refine ag_iald (q := 140) dX8_count_139 rfl (Nat.lt_of_lt_of_le (by decide : 146 < NT) hN) s_146 ?_
    refine ag_iadd (q := 141) dX8_count_140 rfl ?_
    refine ag_istore_2 (q := 142) dX8_count_141 rfl (Nat.le_of_ble_eq_true rfl) rfl ?_
    refine ag_iinc_3 (q := 145) (d := (1)) dX8_count_142 rfl (Nat.le_of_ble_eq_true rfl) rfl (by decide) ?_
    refine ag_goto (q := 123) dX8_count_145 rfl ?_
    exact ih (x2 + (σ 146 ((1 : Int32) + x3).toNatClampNeg)) (x3 + (1)) σ
def J_X8_count (a1 : Int32) (σ : Sg) : Option (Int32 × Sg) :=
  (bd2 (J_X8_asItIs  σ) fun r1 s1 => (if a1 = 0 then (some ((s1 141 0), s1)) else (if a1 = 1 then (some ((s1 141 1), s1)) else (if a1 = 2 then (some ((s1 141 3), s1)) else (if a1 = 3 then (some ((s1 146 0), s1)) else (if a1 = 4 then (bd1 (J_X8_onMeadow (0 : Int32) s1) fun r96 => (some (r96, s1))) else (if a1 = 5 then (bd1 (J_X8_onMeadow (1 : Int32) s1) fun r102 => (some (r102, s1))) else (if a1 = 6 then (bd1 (J_X8_worth  s1) fun r109 => (some (((100 : Int32) + r109), s1))) else (if a1 = 7 then (bd1 (J_X8_lost  s1) fun r115 => (some (r115, s1))) else (if a1 = 8 then (J_X8_count_b123   FU (0 : Int32) (0 : Int32) s1) else (if a1 = 9 then (some ((s1 141 7), s1)) else (if a1 = 10 then (some ((s1 141 11), s1)) else (if a1 = 11 then (some ((s1 141 14), s1)) else (if a1 = 12 then (some ((s1 141 17), s1)) else (some ((-1 : Int32), s1))))))))))))))))
set_option maxHeartbeats 4000000 in
theorem A_X8_count (K : KT) {N : Nat} (hN : NT ≤ N) (a1 : Int32) (σ : Sg) : AG K mX8_count N (fun a : Int32 × Sg => (some (.int a.1), N, R0, a.2)) (J_X8_count a1 σ) 0 [some (.ref 141), some (.int a1), none, none] [] σ := by
  unfold J_X8_count
  refine ag_aload_0 (q := 1) dX8_count_0 rfl ?_
  refine ag_callV_mU (q := 4) (av := []) (rest := []) dX8_count_1 rfl lk8_228 (C_X8_asItIs hN  _) (by decide) (Nat.le_of_ble_eq_true rfl) (Nat.lt_of_lt_of_le (by decide : 141 < NT) hN) (congrArg Prod.fst s_141) (by decide) (fun _ => rfl) (Nat.le_of_ble_eq_true rfl) rfl (fun r1 s1 e1 => ?_)
  refine ag_iload_1 (q := 5) dX8_count_4 rfl ?_
  refine ag_ite (fun z0 => ?_) (fun z0 => ?_)
  · refine ag_tin (k := 0) (q := 72) dX8_count_5 z0 (by decide) (by decide) rfl rfl ?_
    refine ag_aload_0 (q := 73) dX8_count_72 rfl ?_
    refine ag_getI (q := 76) dX8_count_73 rfl fl8_119 (Nat.lt_of_lt_of_le (by decide : 141 < NT) hN) (congrArg Prod.fst s_141) rfl ?_
    exact ag_iret dX8_count_76 rfl rfl
  refine ag_ite (fun z1 => ?_) (fun z1 => ?_)
  · refine ag_tin (k := 1) (q := 77) dX8_count_5 z1 (by decide) (by decide) rfl rfl ?_
    refine ag_aload_0 (q := 78) dX8_count_77 rfl ?_
    refine ag_getI (q := 81) dX8_count_78 rfl fl8_159 (Nat.lt_of_lt_of_le (by decide : 141 < NT) hN) (congrArg Prod.fst s_141) rfl ?_
    exact ag_iret dX8_count_81 rfl rfl
  refine ag_ite (fun z2 => ?_) (fun z2 => ?_)
  · refine ag_tin (k := 2) (q := 82) dX8_count_5 z2 (by decide) (by decide) rfl rfl ?_
    refine ag_aload_0 (q := 83) dX8_count_82 rfl ?_
    refine ag_getI (q := 86) dX8_count_83 rfl fl8_112 (Nat.lt_of_lt_of_le (by decide : 141 < NT) hN) (congrArg Prod.fst s_141) rfl ?_
    exact ag_iret dX8_count_86 rfl rfl
  refine ag_ite (fun z3 => ?_) (fun z3 => ?_)
  · refine ag_tin (k := 3) (q := 87) dX8_count_5 z3 (by decide) (by decide) rfl rfl ?_
    refine ag_aload_0 (q := 88) dX8_count_87 rfl ?_
    refine ag_getR (q := 91) dX8_count_88 rfl fl8_22 (Nat.lt_of_lt_of_le (by decide : 141 < NT) hN) (congrArg Prod.fst s_141) rfl r_141_10 ?_
    refine ag_iconst (q := 92) (v := 0) dX8_count_91 rfl (by decide) ?_
    refine ag_ialdK (q := 93) (k := 0) dX8_count_92 rfl (Nat.lt_of_lt_of_le (by decide : 146 < NT) hN) s_146 (by decide) (by decide) ?_
    exact ag_iret dX8_count_93 rfl rfl
  refine ag_ite (fun z4 => ?_) (fun z4 => ?_)
  · refine ag_tin (k := 4) (q := 94) dX8_count_5 z4 (by decide) (by decide) rfl rfl ?_
    refine ag_aload_0 (q := 95) dX8_count_94 rfl ?_
    refine ag_iconst (q := 96) (v := 0) dX8_count_95 rfl (by decide) ?_
    refine ag_callV_pI (q := 99) (av := [.int _]) (rest := []) dX8_count_96 rfl lk8_267 (C_X8_onMeadow hN (0 : Int32) _) (by decide) (Nat.le_of_ble_eq_true rfl) (Nat.lt_of_lt_of_le (by decide : 141 < NT) hN) (congrArg Prod.fst s_141) (by decide) (fun _ => rfl) (Nat.le_of_ble_eq_true rfl) rfl (fun r96 e96 => ?_)
    exact ag_iret dX8_count_99 rfl rfl
  refine ag_ite (fun z5 => ?_) (fun z5 => ?_)
  · refine ag_tin (k := 5) (q := 100) dX8_count_5 z5 (by decide) (by decide) rfl rfl ?_
    refine ag_aload_0 (q := 101) dX8_count_100 rfl ?_
    refine ag_iconst (q := 102) (v := 1) dX8_count_101 rfl (by decide) ?_
    refine ag_callV_pI (q := 105) (av := [.int _]) (rest := []) dX8_count_102 rfl lk8_267 (C_X8_onMeadow hN (1 : Int32) _) (by decide) (Nat.le_of_ble_eq_true rfl) (Nat.lt_of_lt_of_le (by decide : 141 < NT) hN) (congrArg Prod.fst s_141) (by decide) (fun _ => rfl) (Nat.le_of_ble_eq_true rfl) rfl (fun r102 e102 => ?_)
    exact ag_iret dX8_count_105 rfl rfl
  refine ag_ite (fun z6 => ?_) (fun z6 => ?_)
  · refine ag_tin (k := 6) (q := 106) dX8_count_5 z6 (by decide) (by decide) rfl rfl ?_
    refine ag_bipush (q := 108) (v := 100) dX8_count_106 rfl (by decide) ?_
    refine ag_aload_0 (q := 109) dX8_count_108 rfl ?_
    refine ag_callV_pI (q := 112) (av := []) (rest := [.int _]) dX8_count_109 rfl lk8_273 (C_X8_worth hN  _) (by decide) (Nat.le_of_ble_eq_true rfl) (Nat.lt_of_lt_of_le (by decide : 141 < NT) hN) (congrArg Prod.fst s_141) (by decide) (fun _ => rfl) (Nat.le_of_ble_eq_true rfl) rfl (fun r109 e109 => ?_)
    refine ag_iadd (q := 113) dX8_count_112 rfl ?_
    exact ag_iret dX8_count_113 rfl rfl
  refine ag_ite (fun z7 => ?_) (fun z7 => ?_)
  · refine ag_tin (k := 7) (q := 114) dX8_count_5 z7 (by decide) (by decide) rfl rfl ?_
    refine ag_aload_0 (q := 115) dX8_count_114 rfl ?_
    refine ag_callV_pI (q := 118) (av := []) (rest := []) dX8_count_115 rfl lk8_222 (C_X8_lost hN  _) (by decide) (Nat.le_of_ble_eq_true rfl) (Nat.lt_of_lt_of_le (by decide : 141 < NT) hN) (congrArg Prod.fst s_141) (by decide) (fun _ => rfl) (Nat.le_of_ble_eq_true rfl) rfl (fun r115 e115 => ?_)
    exact ag_iret dX8_count_118 rfl rfl
  refine ag_ite (fun z8 => ?_) (fun z8 => ?_)
  · refine ag_tin (k := 8) (q := 119) dX8_count_5 z8 (by decide) (by decide) rfl rfl ?_
    refine ag_iconst (q := 120) (v := 0) dX8_count_119 rfl (by decide) ?_
    refine ag_istore_2 (q := 121) dX8_count_120 rfl (Nat.le_of_ble_eq_true rfl) rfl ?_
    refine ag_iconst (q := 122) (v := 0) dX8_count_121 rfl (by decide) ?_
    refine ag_istore_3 (q := 123) dX8_count_122 rfl (Nat.le_of_ble_eq_true rfl) rfl ?_
    refine ag_kill_1 ?_
    exact A_X8_count_b123 K hN   FU (0 : Int32) (0 : Int32) s1
  refine ag_ite (fun z9 => ?_) (fun z9 => ?_)
  · refine ag_tin (k := 9) (q := 150) dX8_count_5 z9 (by decide) (by decide) rfl rfl ?_
    refine ag_aload_0 (q := 151) dX8_count_150 rfl ?_
    refine ag_getI (q := 154) dX8_count_151 rfl fl8_169 (Nat.lt_of_lt_of_le (by decide : 141 < NT) hN) (congrArg Prod.fst s_141) rfl ?_
    exact ag_iret dX8_count_154 rfl rfl
  refine ag_ite (fun z10 => ?_) (fun z10 => ?_)
  · refine ag_tin (k := 10) (q := 155) dX8_count_5 z10 (by decide) (by decide) rfl rfl ?_
    refine ag_aload_0 (q := 156) dX8_count_155 rfl ?_
    refine ag_getI (q := 159) dX8_count_156 rfl fl8_175 (Nat.lt_of_lt_of_le (by decide : 141 < NT) hN) (congrArg Prod.fst s_141) rfl ?_
    exact ag_iret dX8_count_159 rfl rfl
  refine ag_ite (fun z11 => ?_) (fun z11 => ?_)
  · refine ag_tin (k := 11) (q := 160) dX8_count_5 z11 (by decide) (by decide) rfl rfl ?_
    refine ag_aload_0 (q := 161) dX8_count_160 rfl ?_
    refine ag_getI (q := 164) dX8_count_161 rfl fl8_178 (Nat.lt_of_lt_of_le (by decide : 141 < NT) hN) (congrArg Prod.fst s_141) rfl ?_
    exact ag_iret dX8_count_164 rfl rfl
  refine ag_ite (fun z12 => ?_) (fun z12 => ?_)
  · refine ag_tin (k := 12) (q := 165) dX8_count_5 z12 (by decide) (by decide) rfl rfl ?_
    refine ag_aload_0 (q := 166) dX8_count_165 rfl ?_
    refine ag_getI (q := 169) dX8_count_166 rfl fl8_122 (Nat.lt_of_lt_of_le (by decide : 141 < NT) hN) (congrArg Prod.fst s_141) rfl ?_
    exact ag_iret dX8_count_169 rfl rfl
  refine ag_tout (q := 170) dX8_count_5 (by have q0 := lv_neT z0 (by decide : (0 : Int32).toInt = 0); have q1 := lv_neT z1 (by decide : (1 : Int32).toInt = 1); have q2 := lv_neT z2 (by decide : (2 : Int32).toInt = 2); have q3 := lv_neT z3 (by decide : (3 : Int32).toInt = 3); have q4 := lv_neT z4 (by decide : (4 : Int32).toInt = 4); have q5 := lv_neT z5 (by decide : (5 : Int32).toInt = 5); have q6 := lv_neT z6 (by decide : (6 : Int32).toInt = 6); have q7 := lv_neT z7 (by decide : (7 : Int32).toInt = 7); have q8 := lv_neT z8 (by decide : (8 : Int32).toInt = 8); have q9 := lv_neT z9 (by decide : (9 : Int32).toInt = 9); have q10 := lv_neT z10 (by decide : (10 : Int32).toInt = 10); have q11 := lv_neT z11 (by decide : (11 : Int32).toInt = 11); have q12 := lv_neT z12 (by decide : (12 : Int32).toInt = 12); omega) rfl ?_
  refine ag_iconst (q := 171) (v := -1) dX8_count_170 rfl (by decide) ?_
  exact ag_iret dX8_count_171 rfl rfl
theorem C_X8_count {N : Nat} (hN : NT ≤ N) (a1 : Int32) (σ : Sg) : ∀ r s', J_X8_count a1 σ = some (r, s') → AMc yX8_count mX8_count [.ref 141, .int a1] N R0 σ (some (.int r), N, R0, s') := fun r s' e => AMc.of (L := [some (.ref 141), some (.int a1), none, none]) (by decide) rfl (fun _ => rfl) (fun _ => Nat.le_of_ble_eq_true rfl) (Nat.le_refl _) (fun K => A_X8_count K hN a1 σ _ e)
