def J_X8_isNearRam_b36  (y5 : Int32 → Int32 → Int32 → Int32 → Sg → Option Int32) (x1 : Int32) (x2 : Int32) (x3 : Int32) (x4 : Int32) (w0 : Int32) (σ : Sg) : Option Int32 :=
  (if x3 = 0 then (if w0 < 0 then (y5 x1 x2 (0 : Int32) (x4 + (1)) σ) else (if inb w0 8 = true then (if (σ 144 w0.toNatClampNeg) = x2 then (y5 x1 x2 (0 : Int32) (x4 + (1)) σ) else (bd1 (J_X8_kindOf w0 σ) fun r61 => (if r61 = 0 then (y5 x1 x2 (1 : Int32) (x4 + (1)) σ) else (y5 x1 x2 (0 : Int32) (x4 + (1)) σ)))) else none)) else (y5 x1 x2 (1 : Int32) (x4 + (1)) σ))
set_option maxHeartbeats 4000000 in
theorem A_X8_isNearRam_b36 (K : KT) {N : Nat} (hN : NT ≤ N)  (y5 : Int32 → Int32 → Int32 → Int32 → Sg → Option Int32) (hy5 : ∀ (x1 : Int32) (x2 : Int32) (x3 : Int32) (x4 : Int32) (σ : Sg), AG K mX8_isNearRam N (fun a : Int32 => (some (.int a), N, R0, σ)) (y5 x1 x2 x3 x4 σ) 5 [some (.ref 141), some (.int x1), some (.int x2), some (.int x3), some (.int x4), none, none] [] σ) (x1 : Int32) (x2 : Int32) (x3 : Int32) (x4 : Int32) (w0 : Int32) (σ : Sg) : AG K mX8_isNearRam N (fun a : Int32 => (some (.int a), N, R0, σ)) (J_X8_isNearRam_b36  y5 x1 x2 x3 x4 w0 σ) 36 [some (.ref 141), some (.int x1), some (.int x2), some (.int x3), some (.int x4), none, none] [.int w0] σ := by
  unfold J_X8_isNearRam_b36
  refine ag_istore_6 (q := 38) dX8_isNearRam_36 rfl (Nat.le_of_ble_eq_true rfl) rfl ?_
  refine ag_iload_3 (q := 39) dX8_isNearRam_38 rfl ?_
  refine ag_if_ne (tgt := 67) (q := 42) dX8_isNearRam_39 rfl rfl ?_ ?_
  · refine ag_iconst (q := 68) (v := 1) dX8_isNearRam_67 rfl (by decide) ?_
    refine ag_goto (q := 72) dX8_isNearRam_68 rfl ?_
    refine ag_istore_3 (q := 73) dX8_isNearRam_72 rfl (Nat.le_of_ble_eq_true rfl) rfl ?_
    refine ag_iinc_4 (q := 76) (d := (1)) dX8_isNearRam_73 rfl (Nat.le_of_ble_eq_true rfl) rfl (by decide) ?_
    refine ag_goto (q := 5) dX8_isNearRam_76 rfl ?_
    refine ag_kill_6 ?_
    exact hy5 x1 x2 (1 : Int32) (x4 + (1)) σ
  refine ag_iload_6 (q := 44) dX8_isNearRam_42 rfl ?_
  refine ag_if_lt (tgt := 71) (q := 47) dX8_isNearRam_44 rfl rfl ?_ ?_
  · refine ag_iconst (q := 72) (v := 0) dX8_isNearRam_71 rfl (by decide) ?_
    refine ag_istore_3 (q := 73) dX8_isNearRam_72 rfl (Nat.le_of_ble_eq_true rfl) rfl ?_
    refine ag_iinc_4 (q := 76) (d := (1)) dX8_isNearRam_73 rfl (Nat.le_of_ble_eq_true rfl) rfl (by decide) ?_
    refine ag_goto (q := 5) dX8_isNearRam_76 rfl ?_
    refine ag_kill_6 ?_
    exact hy5 x1 x2 (0 : Int32) (x4 + (1)) σ
  refine ag_aload_0 (q := 48) dX8_isNearRam_47 rfl ?_
  refine ag_getR (q := 51) dX8_isNearRam_48 rfl fl8_16 (Nat.lt_of_lt_of_le (by decide : 141 < NT) hN) (congrArg Prod.fst s_141) rfl r_141_5 ?_
  refine ag_iload_6 (q := 53) dX8_isNearRam_51 rfl ?_
  refine ag_iald (q := 54) dX8_isNearRam_53 rfl (Nat.lt_of_lt_of_le (by decide : 144 < NT) hN) s_144 ?_
  refine ag_iload_2 (q := 55) dX8_isNearRam_54 rfl ?_
  refine ag_icmp_eq (tgt := 71) (q := 58) dX8_isNearRam_55 rfl rfl ?_ ?_
  · refine ag_iconst (q := 72) (v := 0) dX8_isNearRam_71 rfl (by decide) ?_
    refine ag_istore_3 (q := 73) dX8_isNearRam_72 rfl (Nat.le_of_ble_eq_true rfl) rfl ?_
    refine ag_iinc_4 (q := 76) (d := (1)) dX8_isNearRam_73 rfl (Nat.le_of_ble_eq_true rfl) rfl (by decide) ?_
    refine ag_goto (q := 5) dX8_isNearRam_76 rfl ?_
    refine ag_kill_6 ?_
    exact hy5 x1 x2 (0 : Int32) (x4 + (1)) σ
  refine ag_aload_0 (q := 59) dX8_isNearRam_58 rfl ?_
  refine ag_iload_6 (q := 61) dX8_isNearRam_59 rfl ?_
  refine ag_callV_pI (q := 64) (av := [.int _]) (rest := []) dX8_isNearRam_61 rfl lk8_192 (C_X8_kindOf hN w0 _) (by decide) (Nat.le_of_ble_eq_true rfl) (Nat.lt_of_lt_of_le (by decide : 141 < NT) hN) (congrArg Prod.fst s_141) (by decide) (fun _ => rfl) (Nat.le_of_ble_eq_true rfl) rfl (fun r61 e61 => ?_)
  refine ag_if_ne (tgt := 71) (q := 67) dX8_isNearRam_64 rfl rfl ?_ ?_
  · refine ag_iconst (q := 72) (v := 0) dX8_isNearRam_71 rfl (by decide) ?_
    refine ag_istore_3 (q := 73) dX8_isNearRam_72 rfl (Nat.le_of_ble_eq_true rfl) rfl ?_
    refine ag_iinc_4 (q := 76) (d := (1)) dX8_isNearRam_73 rfl (Nat.le_of_ble_eq_true rfl) rfl (by decide) ?_
    refine ag_goto (q := 5) dX8_isNearRam_76 rfl ?_
    refine ag_kill_6 ?_
    exact hy5 x1 x2 (0 : Int32) (x4 + (1)) σ
  refine ag_iconst (q := 68) (v := 1) dX8_isNearRam_67 rfl (by decide) ?_
  refine ag_goto (q := 72) dX8_isNearRam_68 rfl ?_
  refine ag_istore_3 (q := 73) dX8_isNearRam_72 rfl (Nat.le_of_ble_eq_true rfl) rfl ?_
  refine ag_iinc_4 (q := 76) (d := (1)) dX8_isNearRam_73 rfl (Nat.le_of_ble_eq_true rfl) rfl (by decide) ?_
  refine ag_goto (q := 5) dX8_isNearRam_76 rfl ?_
  refine ag_kill_6 ?_
  exact hy5 x1 x2 (1 : Int32) (x4 + (1)) σ
def J_X8_isNearRam_b5  : Nat → Int32 → Int32 → Int32 → Int32 → Sg → Option Int32
  | 0, _, _, _, _, _ => none
  | k + 1, x1, x2, x3, x4, σ =>
    (if (4 : Int32) ≤ x4 then (if x3 = 0 ∨ x3 = 1 then some x3 else none) else (bd1 (J_X8_nextTo x1 x4 σ) fun r15 => (if 0 ≤ r15 then (bd1 (J_X8_onIt r15 σ) fun r33 => (J_X8_isNearRam_b36  (fun x1 x2 x3 x4 σ => J_X8_isNearRam_b5   k x1 x2 x3 x4 σ) x1 x2 x3 x4 r33 σ)) else (J_X8_isNearRam_b36  (fun x1 x2 x3 x4 σ => J_X8_isNearRam_b5   k x1 x2 x3 x4 σ) x1 x2 x3 x4 (-4 : Int32) σ))))
set_option maxHeartbeats 4000000 in
theorem A_X8_isNearRam_b5 (K : KT) {N : Nat} (hN : NT ≤ N)  : ∀ (k : Nat) (x1 : Int32) (x2 : Int32) (x3 : Int32) (x4 : Int32) (σ : Sg), AG K mX8_isNearRam N (fun a : Int32 => (some (.int a), N, R0, σ)) (J_X8_isNearRam_b5   k x1 x2 x3 x4 σ) 5 [some (.ref 141), some (.int x1), some (.int x2), some (.int x3), some (.int x4), none, none] [] σ := by
  intro k
  induction k with
  | zero => intro x1 x2 x3 x4 σ; exact ag_none
  | succ k ih =>
    intro x1 x2 x3 x4 σ
    rw [J_X8_isNearRam_b5]
    refine ag_iload_4 (q := 7) dX8_isNearRam_5 rfl ?_
    refine ag_iconst (q := 8) (v := 4) dX8_isNearRam_7 rfl (by decide) ?_
    refine ag_icmp_ge (tgt := 79) (q := 11) dX8_isNearRam_8 rfl rfl ?_ ?_
    · refine ag_iload_3 (q := 80) dX8_isNearRam_79 rfl ?_
      exact ag_zret dX8_isNearRam_80 rfl rfl
    refine ag_aload_0 (q := 12) dX8_isNearRam_11 rfl ?_
    refine ag_iload_1 (q := 13) dX8_isNearRam_12 rfl ?_
    refine ag_iload_4 (q := 15) dX8_isNearRam_13 rfl ?_
    refine ag_callV_pI (q := 18) (av := [.int _, .int _]) (rest := []) dX8_isNearRam_15 rfl lk8_185 (C_X8_nextTo hN x1 x4 _) (by decide) (Nat.le_of_ble_eq_true rfl) (Nat.lt_of_lt_of_le (by decide : 141 < NT) hN) (congrArg Prod.fst s_141) (by decide) (fun _ => rfl) (Nat.le_of_ble_eq_true rfl) rfl (fun r15 e15 => ?_)
    refine ag_istore_5 (q := 20) dX8_isNearRam_18 rfl (Nat.le_of_ble_eq_true rfl) rfl ?_
    refine ag_iload_5 (q := 22) dX8_isNearRam_20 rfl ?_
    refine ag_if_ge (tgt := 30) (q := 25) dX8_isNearRam_22 rfl rfl ?_ ?_
    · refine ag_aload_0 (q := 31) dX8_isNearRam_30 rfl ?_
      refine ag_iload_5 (q := 33) dX8_isNearRam_31 rfl ?_
      refine ag_callV_pI (q := 36) (av := [.int _]) (rest := []) dX8_isNearRam_33 rfl lk8_189 (C_X8_onIt hN r15 _) (by decide) (Nat.le_of_ble_eq_true rfl) (Nat.lt_of_lt_of_le (by decide : 141 < NT) hN) (congrArg Prod.fst s_141) (by decide) (fun _ => rfl) (Nat.le_of_ble_eq_true rfl) rfl (fun r33 e33 => ?_)
      refine ag_kill_5 ?_
      exact A_X8_isNearRam_b36 K hN  (fun x1 x2 x3 x4 σ => J_X8_isNearRam_b5   k x1 x2 x3 x4 σ) (fun x1 x2 x3 x4 σ => ih x1 x2 x3 x4 σ) x1 x2 x3 x4 r33 σ
    refine ag_bipush (q := 27) (v := -4) dX8_isNearRam_25 rfl (by decide) ?_
    refine ag_goto (q := 36) dX8_isNearRam_27 rfl ?_
    refine ag_kill_5 ?_
    exact A_X8_isNearRam_b36 K hN  (fun x1 x2 x3 x4 σ => J_X8_isNearRam_b5   k x1 x2 x3 x4 σ) (fun x1 x2 x3 x4 σ => ih x1 x2 x3 x4 σ) x1 x2 x3 x4 (-4 : Int32) σ
def J_X8_isNearRam (a1 : Int32) (a2 : Int32) (σ : Sg) : Option Int32 :=
  (J_X8_isNearRam_b5   FU a1 a2 (0 : Int32) (0 : Int32) σ)
set_option maxHeartbeats 4000000 in
theorem A_X8_isNearRam (K : KT) {N : Nat} (hN : NT ≤ N) (a1 : Int32) (a2 : Int32) (σ : Sg) : AG K mX8_isNearRam N (fun a : Int32 => (some (.int a), N, R0, σ)) (J_X8_isNearRam a1 a2 σ) 0 [some (.ref 141), some (.int a1), some (.int a2), none, none, none, none] [] σ := by
  unfold J_X8_isNearRam
  refine ag_iconst (q := 1) (v := 0) dX8_isNearRam_0 rfl (by decide) ?_
  refine ag_istore_3 (q := 2) dX8_isNearRam_1 rfl (Nat.le_of_ble_eq_true rfl) rfl ?_
  refine ag_iconst (q := 3) (v := 0) dX8_isNearRam_2 rfl (by decide) ?_
  refine ag_istore_4 (q := 5) dX8_isNearRam_3 rfl (Nat.le_of_ble_eq_true rfl) rfl ?_
  exact A_X8_isNearRam_b5 K hN   FU a1 a2 (0 : Int32) (0 : Int32) σ
theorem C_X8_isNearRam {N : Nat} (hN : NT ≤ N) (a1 : Int32) (a2 : Int32) (σ : Sg) : ∀ r, J_X8_isNearRam a1 a2 σ = some r → AMc yX8_isNearRam mX8_isNearRam [.ref 141, .int a1, .int a2] N R0 σ (some (.int r), N, R0, σ) := fun r e => AMc.of (L := [some (.ref 141), some (.int a1), some (.int a2), none, none, none, none]) (by decide) rfl (fun _ => rfl) (fun _ => Nat.le_of_ble_eq_true rfl) (Nat.le_refl _) (fun K => A_X8_isNearRam K hN a1 a2 σ _ e)
def J_X8_stepTo_b62  (x1 : Int32) (x5 : Int32) (σ : Sg) : Option Int32 :=
  (bd1 (J_X8_kindOf x1 σ) fun r64 => (if r64 = (3 : Int32) then (if inb x1 8 = true then (bd1 (J_X8_isNearRam x5 (σ 144 x1.toNatClampNeg) σ) fun r80 => (if r80 = 0 then (some x5) else (some (-4 : Int32)))) else none) else (some x5)))
set_option maxHeartbeats 4000000 in
theorem A_X8_stepTo_b62 (K : KT) {N : Nat} (hN : NT ≤ N)  (x1 : Int32) (x5 : Int32) (σ : Sg) : AG K mX8_stepTo N (fun a : Int32 => (some (.int a), N, R0, σ)) (J_X8_stepTo_b62   x1 x5 σ) 62 [some (.ref 141), some (.int x1), none, none, none, some (.int x5), none] [] σ := by
  unfold J_X8_stepTo_b62
  refine ag_aload_0 (q := 63) dX8_stepTo_62 rfl ?_
  refine ag_iload_1 (q := 64) dX8_stepTo_63 rfl ?_
  refine ag_callV_pI (q := 67) (av := [.int _]) (rest := []) dX8_stepTo_64 rfl lk8_192 (C_X8_kindOf hN x1 _) (by decide) (Nat.le_of_ble_eq_true rfl) (Nat.lt_of_lt_of_le (by decide : 141 < NT) hN) (congrArg Prod.fst s_141) (by decide) (fun _ => rfl) (Nat.le_of_ble_eq_true rfl) rfl (fun r64 e64 => ?_)
  refine ag_iconst (q := 68) (v := 3) dX8_stepTo_67 rfl (by decide) ?_
  refine ag_icmp_ne (tgt := 89) (q := 71) dX8_stepTo_68 rfl rfl ?_ ?_
  · refine ag_iload_5 (q := 91) dX8_stepTo_89 rfl ?_
    exact ag_iret dX8_stepTo_91 rfl rfl
  refine ag_aload_0 (q := 72) dX8_stepTo_71 rfl ?_
  refine ag_iload_5 (q := 74) dX8_stepTo_72 rfl ?_
  refine ag_aload_0 (q := 75) dX8_stepTo_74 rfl ?_
  refine ag_getR (q := 78) dX8_stepTo_75 rfl fl8_16 (Nat.lt_of_lt_of_le (by decide : 141 < NT) hN) (congrArg Prod.fst s_141) rfl r_141_5 ?_
  refine ag_iload_1 (q := 79) dX8_stepTo_78 rfl ?_
  refine ag_iald (q := 80) dX8_stepTo_79 rfl (Nat.lt_of_lt_of_le (by decide : 144 < NT) hN) s_144 ?_
  refine ag_callV_pI (q := 83) (av := [.int _, .int _]) (rest := []) dX8_stepTo_80 rfl lk8_195 (C_X8_isNearRam hN x5 (σ 144 x1.toNatClampNeg) _) (by decide) (Nat.le_of_ble_eq_true rfl) (Nat.lt_of_lt_of_le (by decide : 141 < NT) hN) (congrArg Prod.fst s_141) (by decide) (fun _ => rfl) (Nat.le_of_ble_eq_true rfl) rfl (fun r80 e80 => ?_)
  refine ag_if_eq (tgt := 89) (q := 86) dX8_stepTo_83 rfl rfl ?_ ?_
  · refine ag_iload_5 (q := 91) dX8_stepTo_89 rfl ?_
    exact ag_iret dX8_stepTo_91 rfl rfl
  refine ag_bipush (q := 88) (v := -4) dX8_stepTo_86 rfl (by decide) ?_
  exact ag_iret dX8_stepTo_88 rfl rfl
def J_X8_stepTo (a1 : Int32) (a2 : Int32) (a3 : Int32) (a4 : Int32) (σ : Sg) : Option Int32 :=
  (bd1 (J_X8_nextTo a2 a3 σ) fun r3 => (if r3 < 0 then (some (-4 : Int32)) else (if inb r3 36 = true then (if (σ 142 r3.toNatClampNeg) = (9 : Int32) then (some (-4 : Int32)) else (bd1 (J_X8_onIt r3 σ) fun r31 => (if r31 < 0 then (J_X8_stepTo_b62   a1 r3 σ) else (if inb r31 8 = true then (if inb a1 8 = true then (if (σ 144 r31.toNatClampNeg) = (σ 144 a1.toNatClampNeg) then (some (-4 : Int32)) else (if a4 = 0 then (some (-4 : Int32)) else (J_X8_stepTo_b62   a1 r3 σ))) else none) else none)))) else none)))
set_option maxHeartbeats 4000000 in
theorem A_X8_stepTo (K : KT) {N : Nat} (hN : NT ≤ N) (a1 : Int32) (a2 : Int32) (a3 : Int32) (a4 : Int32) (σ : Sg) : AG K mX8_stepTo N (fun a : Int32 => (some (.int a), N, R0, σ)) (J_X8_stepTo a1 a2 a3 a4 σ) 0 [some (.ref 141), some (.int a1), some (.int a2), some (.int a3), some (.int a4), none, none] [] σ := by
  unfold J_X8_stepTo
  refine ag_aload_0 (q := 1) dX8_stepTo_0 rfl ?_
  refine ag_iload_2 (q := 2) dX8_stepTo_1 rfl ?_
  refine ag_iload_3 (q := 3) dX8_stepTo_2 rfl ?_
  refine ag_callV_pI (q := 6) (av := [.int _, .int _]) (rest := []) dX8_stepTo_3 rfl lk8_185 (C_X8_nextTo hN a2 a3 _) (by decide) (Nat.le_of_ble_eq_true rfl) (Nat.lt_of_lt_of_le (by decide : 141 < NT) hN) (congrArg Prod.fst s_141) (by decide) (fun _ => rfl) (Nat.le_of_ble_eq_true rfl) rfl (fun r3 e3 => ?_)
  refine ag_istore_5 (q := 8) dX8_stepTo_6 rfl (Nat.le_of_ble_eq_true rfl) rfl ?_
  refine ag_iload_5 (q := 10) dX8_stepTo_8 rfl ?_
  refine ag_if_lt (tgt := 25) (q := 13) dX8_stepTo_10 rfl rfl ?_ ?_
  · refine ag_bipush (q := 27) (v := -4) dX8_stepTo_25 rfl (by decide) ?_
    exact ag_iret dX8_stepTo_27 rfl rfl
  refine ag_aload_0 (q := 14) dX8_stepTo_13 rfl ?_
  refine ag_getR (q := 17) dX8_stepTo_14 rfl fl8_7 (Nat.lt_of_lt_of_le (by decide : 141 < NT) hN) (congrArg Prod.fst s_141) rfl r_141_2 ?_
  refine ag_iload_5 (q := 19) dX8_stepTo_17 rfl ?_
  refine ag_iald (q := 20) dX8_stepTo_19 rfl (Nat.lt_of_lt_of_le (by decide : 142 < NT) hN) s_142 ?_
  refine ag_bipush (q := 22) (v := 9) dX8_stepTo_20 rfl (by decide) ?_
  refine ag_icmp_ne (tgt := 28) (q := 25) dX8_stepTo_22 rfl rfl ?_ ?_
  · refine ag_aload_0 (q := 29) dX8_stepTo_28 rfl ?_
    refine ag_iload_5 (q := 31) dX8_stepTo_29 rfl ?_
    refine ag_callV_pI (q := 34) (av := [.int _]) (rest := []) dX8_stepTo_31 rfl lk8_189 (C_X8_onIt hN r3 _) (by decide) (Nat.le_of_ble_eq_true rfl) (Nat.lt_of_lt_of_le (by decide : 141 < NT) hN) (congrArg Prod.fst s_141) (by decide) (fun _ => rfl) (Nat.le_of_ble_eq_true rfl) rfl (fun r31 e31 => ?_)
    refine ag_istore_6 (q := 36) dX8_stepTo_34 rfl (Nat.le_of_ble_eq_true rfl) rfl ?_
    refine ag_iload_6 (q := 38) dX8_stepTo_36 rfl ?_
    refine ag_if_lt (tgt := 62) (q := 41) dX8_stepTo_38 rfl rfl ?_ ?_
    · refine ag_kill_2 ?_
      refine ag_kill_3 ?_
      refine ag_kill_4 ?_
      refine ag_kill_6 ?_
      exact A_X8_stepTo_b62 K hN   a1 r3 σ
    refine ag_aload_0 (q := 42) dX8_stepTo_41 rfl ?_
    refine ag_getR (q := 45) dX8_stepTo_42 rfl fl8_16 (Nat.lt_of_lt_of_le (by decide : 141 < NT) hN) (congrArg Prod.fst s_141) rfl r_141_5 ?_
    refine ag_iload_6 (q := 47) dX8_stepTo_45 rfl ?_
    refine ag_iald (q := 48) dX8_stepTo_47 rfl (Nat.lt_of_lt_of_le (by decide : 144 < NT) hN) s_144 ?_
    refine ag_aload_0 (q := 49) dX8_stepTo_48 rfl ?_
    refine ag_getR (q := 52) dX8_stepTo_49 rfl fl8_16 (Nat.lt_of_lt_of_le (by decide : 141 < NT) hN) (congrArg Prod.fst s_141) rfl r_141_5 ?_
    refine ag_iload_1 (q := 53) dX8_stepTo_52 rfl ?_
    refine ag_iald (q := 54) dX8_stepTo_53 rfl (Nat.lt_of_lt_of_le (by decide : 144 < NT) hN) s_144 ?_
    refine ag_icmp_eq (tgt := 86) (q := 57) dX8_stepTo_54 rfl rfl ?_ ?_
    · refine ag_bipush (q := 88) (v := -4) dX8_stepTo_86 rfl (by decide) ?_
      exact ag_iret dX8_stepTo_88 rfl rfl
    refine ag_iload_4 (q := 59) dX8_stepTo_57 rfl ?_
    refine ag_if_eq (tgt := 86) (q := 62) dX8_stepTo_59 rfl rfl ?_ ?_
    · refine ag_bipush (q := 88) (v := -4) dX8_stepTo_86 rfl (by decide) ?_
      exact ag_iret dX8_stepTo_88 rfl rfl
    refine ag_kill_2 ?_
    refine ag_kill_3 ?_
    refine ag_kill_4 ?_
    refine ag_kill_6 ?_
    exact A_X8_stepTo_b62 K hN   a1 r3 σ
  refine ag_bipush (q := 27) (v := -4) dX8_stepTo_25 rfl (by decide) ?_
  exact ag_iret dX8_stepTo_27 rfl rfl
theorem C_X8_stepTo {N : Nat} (hN : NT ≤ N) (a1 : Int32) (a2 : Int32) (a3 : Int32) (a4 : Int32) (σ : Sg) : ∀ r, J_X8_stepTo a1 a2 a3 a4 σ = some r → AMc yX8_stepTo mX8_stepTo [.ref 141, .int a1, .int a2, .int a3, .int a4] N R0 σ (some (.int r), N, R0, σ) := fun r e => AMc.of (L := [some (.ref 141), some (.int a1), some (.int a2), some (.int a3), some (.int a4), none, none]) (by decide) rfl (fun _ => rfl) (fun _ => Nat.le_of_ble_eq_true rfl) (Nat.le_refl _) (fun K => A_X8_stepTo K hN a1 a2 a3 a4 σ _ e)
def J_X8_comesTo_b180  (y120 : Int32 → Int32 → Int32 → Int32 → Int32 → Sg → Option (Int32 × Sg)) (x1 : Int32) (x2 : Int32) (x5 : Int32) (x7 : Int32) (w0 : Int32) (σ : Sg) : Option (Int32 × Sg) :=
  (if x7 = 0 then (y120 x1 x2 x5 w0 x7 (up σ 141 32 (σ 141 32))) else (bd1 (J_X8_onIt w0 σ) fun r191 => (y120 x1 x2 x5 w0 x7 (up σ 141 32 r191))))
set_option maxHeartbeats 4000000 in
theorem A_X8_comesTo_b180 (K : KT) {N : Nat} (hN : NT ≤ N)  (y120 : Int32 → Int32 → Int32 → Int32 → Int32 → Sg → Option (Int32 × Sg)) (hy120 : ∀ (x1 : Int32) (x2 : Int32) (x5 : Int32) (x6 : Int32) (x7 : Int32) (σ : Sg), AG K mX8_comesTo N (fun a : Int32 × Sg => (some (.int a.1), N, R0, a.2)) (y120 x1 x2 x5 x6 x7 σ) 120 [some (.ref 141), some (.int x1), some (.int x2), none, none, some (.int x5), some (.int x6), some (.int x7), none] [] σ) (x1 : Int32) (x2 : Int32) (x5 : Int32) (x7 : Int32) (w0 : Int32) (σ : Sg) : AG K mX8_comesTo N (fun a : Int32 × Sg => (some (.int a.1), N, R0, a.2)) (J_X8_comesTo_b180  y120 x1 x2 x5 x7 w0 σ) 180 [some (.ref 141), some (.int x1), some (.int x2), none, none, some (.int x5), none, some (.int x7), none] [.int w0] σ := by
  unfold J_X8_comesTo_b180
  refine ag_istore_6 (q := 182) dX8_comesTo_180 rfl (Nat.le_of_ble_eq_true rfl) rfl ?_
  refine ag_aload_0 (q := 183) dX8_comesTo_182 rfl ?_
  refine ag_iload_7 (q := 185) dX8_comesTo_183 rfl ?_
  refine ag_if_eq (tgt := 197) (q := 188) dX8_comesTo_185 rfl rfl ?_ ?_
  · refine ag_aload_0 (q := 198) dX8_comesTo_197 rfl ?_
    refine ag_getI (q := 201) dX8_comesTo_198 rfl fl8_198 (Nat.lt_of_lt_of_le (by decide : 141 < NT) hN) (congrArg Prod.fst s_141) rfl ?_
    refine ag_putI (q := 204) dX8_comesTo_201 rfl fl8_198 (Nat.lt_of_lt_of_le (by decide : 141 < NT) hN) (congrArg Prod.fst s_141) rfl ?_
    refine ag_goto (q := 120) dX8_comesTo_204 rfl ?_
    exact hy120 x1 x2 x5 w0 x7 (up σ 141 32 (σ 141 32))
  refine ag_aload_0 (q := 189) dX8_comesTo_188 rfl ?_
  refine ag_iload_6 (q := 191) dX8_comesTo_189 rfl ?_
  refine ag_callV_pI (q := 194) (av := [.int _]) (rest := [.ref _]) dX8_comesTo_191 rfl lk8_189 (C_X8_onIt hN w0 _) (by decide) (Nat.le_of_ble_eq_true rfl) (Nat.lt_of_lt_of_le (by decide : 141 < NT) hN) (congrArg Prod.fst s_141) (by decide) (fun _ => rfl) (Nat.le_of_ble_eq_true rfl) rfl (fun r191 e191 => ?_)
  refine ag_goto (q := 201) dX8_comesTo_194 rfl ?_
  refine ag_putI (q := 204) dX8_comesTo_201 rfl fl8_198 (Nat.lt_of_lt_of_le (by decide : 141 < NT) hN) (congrArg Prod.fst s_141) rfl ?_
  refine ag_goto (q := 120) dX8_comesTo_204 rfl ?_
  exact hy120 x1 x2 x5 w0 x7 (up σ 141 32 r191)
def J_X8_comesTo_b120  : Nat → Int32 → Int32 → Int32 → Int32 → Int32 → Sg → Option (Int32 × Sg)
  | 0, _, _, _, _, _, _ => none
  | k + 1, x1, x2, x5, x6, x7, σ =>
    (if x7 = 0 then (some (x6, σ)) else (if 0 ≤ (σ 141 32) then (some (x6, σ)) else (if inb ((1 : Int32) + x6) 54 = true then (if (σ 157 ((1 : Int32) + x6).toNatClampNeg) = 0 then (bd1 (J_X8_stepTo x1 x6 x2 x5 σ) fun r151 => (if r151 < 0 then (J_X8_comesTo_b180  (fun x1 x2 x5 x6 x7 σ => J_X8_comesTo_b120   k x1 x2 x5 x6 x7 σ) x1 x2 x5 (0 : Int32) x6 σ) else (J_X8_comesTo_b180  (fun x1 x2 x5 x6 x7 σ => J_X8_comesTo_b120   k x1 x2 x5 x6 x7 σ) x1 x2 x5 (1 : Int32) r151 σ))) else (some (x6, σ))) else none)))
set_option maxHeartbeats 4000000 in
theorem A_X8_comesTo_b120 (K : KT) {N : Nat} (hN : NT ≤ N)  : ∀ (k : Nat) (x1 : Int32) (x2 : Int32) (x5 : Int32) (x6 : Int32) (x7 : Int32) (σ : Sg), AG K mX8_comesTo N (fun a : Int32 × Sg => (some (.int a.1), N, R0, a.2)) (J_X8_comesTo_b120   k x1 x2 x5 x6 x7 σ) 120 [some (.ref 141), some (.int x1), some (.int x2), none, none, some (.int x5), some (.int x6), some (.int x7), none] [] σ := by
  intro k
  induction k with
  | zero => intro x1 x2 x5 x6 x7 σ; exact ag_none
  | succ k ih =>
    intro x1 x2 x5 x6 x7 σ
    rw [J_X8_comesTo_b120]
    refine ag_iload_7 (q := 122) dX8_comesTo_120 rfl ?_
    refine ag_if_eq (tgt := 207) (q := 125) dX8_comesTo_122 rfl rfl ?_ ?_
    · refine ag_iload_6 (q := 209) dX8_comesTo_207 rfl ?_
      exact ag_iret dX8_comesTo_209 rfl rfl
    refine ag_aload_0 (q := 126) dX8_comesTo_125 rfl ?_
    refine ag_getI (q := 129) dX8_comesTo_126 rfl fl8_198 (Nat.lt_of_lt_of_le (by decide : 141 < NT) hN) (congrArg Prod.fst s_141) rfl ?_
    refine ag_if_ge (tgt := 207) (q := 132) dX8_comesTo_129 rfl rfl ?_ ?_
    · refine ag_iload_6 (q := 209) dX8_comesTo_207 rfl ?_
      exact ag_iret dX8_comesTo_209 rfl rfl
    refine ag_aload_0 (q := 133) dX8_comesTo_132 rfl ?_
    refine ag_getR (q := 136) dX8_comesTo_133 rfl fl8_55 (Nat.lt_of_lt_of_le (by decide : 141 < NT) hN) (congrArg Prod.fst s_141) rfl r_141_31 ?_
    refine ag_iconst (q := 137) (v := 1) dX8_comesTo_136 rfl (by decide) ?_
    refine ag_iload_6 (q := 139) dX8_comesTo_137 rfl ?_
    refine ag_iadd (q := 140) dX8_comesTo_139 rfl ?_
    refine ag_iald (q := 141) dX8_comesTo_140 rfl (Nat.lt_of_lt_of_le (by decide : 157 < NT) hN) s_157 ?_
    refine ag_if_ne (tgt := 207) (q := 144) dX8_comesTo_141 rfl rfl ?_ ?_
    · refine ag_iload_6 (q := 209) dX8_comesTo_207 rfl ?_
      exact ag_iret dX8_comesTo_209 rfl rfl
    refine ag_aload_0 (q := 145) dX8_comesTo_144 rfl ?_
    refine ag_iload_1 (q := 146) dX8_comesTo_145 rfl ?_
    refine ag_iload_6 (q := 148) dX8_comesTo_146 rfl ?_
    refine ag_iload_2 (q := 149) dX8_comesTo_148 rfl ?_
    refine ag_iload_5 (q := 151) dX8_comesTo_149 rfl ?_
    refine ag_callV_pI (q := 154) (av := [.int _, .int _, .int _, .int _]) (rest := []) dX8_comesTo_151 rfl lk8_204 (C_X8_stepTo hN x1 x6 x2 x5 _) (by decide) (Nat.le_of_ble_eq_true rfl) (Nat.lt_of_lt_of_le (by decide : 141 < NT) hN) (congrArg Prod.fst s_141) (by decide) (fun _ => rfl) (Nat.le_of_ble_eq_true rfl) rfl (fun r151 e151 => ?_)
    refine ag_istore_8 (q := 156) dX8_comesTo_154 rfl (Nat.le_of_ble_eq_true rfl) rfl ?_
    refine ag_iload_8 (q := 158) dX8_comesTo_156 rfl ?_
    refine ag_if_lt (tgt := 165) (q := 161) dX8_comesTo_158 rfl rfl ?_ ?_
    · refine ag_iconst (q := 166) (v := 0) dX8_comesTo_165 rfl (by decide) ?_
      refine ag_istore_7 (q := 168) dX8_comesTo_166 rfl (Nat.le_of_ble_eq_true rfl) rfl ?_
      refine ag_iload_7 (q := 170) dX8_comesTo_168 rfl ?_
      refine ag_if_eq_t (q := 178) dX8_comesTo_170 rfl (by decide) ?_
      refine ag_iload_6 (q := 180) dX8_comesTo_178 rfl ?_
      refine ag_kill_6 ?_
      refine ag_kill_8 ?_
      exact A_X8_comesTo_b180 K hN  (fun x1 x2 x5 x6 x7 σ => J_X8_comesTo_b120   k x1 x2 x5 x6 x7 σ) (fun x1 x2 x5 x6 x7 σ => ih x1 x2 x5 x6 x7 σ) x1 x2 x5 (0 : Int32) x6 σ
    refine ag_iconst (q := 162) (v := 1) dX8_comesTo_161 rfl (by decide) ?_
    refine ag_goto (q := 166) dX8_comesTo_162 rfl ?_
    refine ag_istore_7 (q := 168) dX8_comesTo_166 rfl (Nat.le_of_ble_eq_true rfl) rfl ?_
    refine ag_iload_7 (q := 170) dX8_comesTo_168 rfl ?_
    refine ag_if_eq_f (tgt := 178) (q := 173) dX8_comesTo_170 rfl rfl (by decide) ?_
    refine ag_iload_8 (q := 175) dX8_comesTo_173 rfl ?_
    refine ag_goto (q := 180) dX8_comesTo_175 rfl ?_
    refine ag_kill_6 ?_
    refine ag_kill_8 ?_
    exact A_X8_comesTo_b180 K hN  (fun x1 x2 x5 x6 x7 σ => J_X8_comesTo_b120   k x1 x2 x5 x6 x7 σ) (fun x1 x2 x5 x6 x7 σ => ih x1 x2 x5 x6 x7 σ) x1 x2 x5 (1 : Int32) r151 σ
def J_X8_comesTo_b100  (x1 : Int32) (x2 : Int32) (x4 : Int32) (x5 : Int32) (x6 : Int32) (w0 : Int32) (σ : Sg) : Option (Int32 × Sg) :=
  (if x4 = 0 then (if x6 < 0 then (J_X8_comesTo_b120   FU x1 x2 x5 x6 (0 : Int32) (up σ 141 32 w0)) else (J_X8_comesTo_b120   FU x1 x2 x5 x6 (1 : Int32) (up σ 141 32 w0))) else (J_X8_comesTo_b120   FU x1 x2 x5 x6 (0 : Int32) (up σ 141 32 w0)))
set_option maxHeartbeats 4000000 in
theorem A_X8_comesTo_b100 (K : KT) {N : Nat} (hN : NT ≤ N)  (x1 : Int32) (x2 : Int32) (x4 : Int32) (x5 : Int32) (x6 : Int32) (w0 : Int32) (σ : Sg) : AG K mX8_comesTo N (fun a : Int32 × Sg => (some (.int a.1), N, R0, a.2)) (J_X8_comesTo_b100   x1 x2 x4 x5 x6 w0 σ) 100 [some (.ref 141), some (.int x1), some (.int x2), none, some (.int x4), some (.int x5), some (.int x6), none, none] [.int w0, .ref 141] σ := by
  unfold J_X8_comesTo_b100
  refine ag_putI (q := 103) dX8_comesTo_100 rfl fl8_198 (Nat.lt_of_lt_of_le (by decide : 141 < NT) hN) (congrArg Prod.fst s_141) rfl ?_
  refine ag_iload_4 (q := 105) dX8_comesTo_103 rfl ?_
  refine ag_if_ne (tgt := 117) (q := 108) dX8_comesTo_105 rfl rfl ?_ ?_
  · refine ag_iconst (q := 118) (v := 0) dX8_comesTo_117 rfl (by decide) ?_
    refine ag_istore_7 (q := 120) dX8_comesTo_118 rfl (Nat.le_of_ble_eq_true rfl) rfl ?_
    refine ag_kill_4 ?_
    exact A_X8_comesTo_b120 K hN   FU x1 x2 x5 x6 (0 : Int32) (up σ 141 32 w0)
  refine ag_iload_6 (q := 110) dX8_comesTo_108 rfl ?_
  refine ag_if_lt (tgt := 117) (q := 113) dX8_comesTo_110 rfl rfl ?_ ?_
  · refine ag_iconst (q := 118) (v := 0) dX8_comesTo_117 rfl (by decide) ?_
    refine ag_istore_7 (q := 120) dX8_comesTo_118 rfl (Nat.le_of_ble_eq_true rfl) rfl ?_
    refine ag_kill_4 ?_
    exact A_X8_comesTo_b120 K hN   FU x1 x2 x5 x6 (0 : Int32) (up σ 141 32 w0)
  refine ag_iconst (q := 114) (v := 1) dX8_comesTo_113 rfl (by decide) ?_
  refine ag_goto (q := 118) dX8_comesTo_114 rfl ?_
  refine ag_istore_7 (q := 120) dX8_comesTo_118 rfl (Nat.le_of_ble_eq_true rfl) rfl ?_
  refine ag_kill_4 ?_
  exact A_X8_comesTo_b120 K hN   FU x1 x2 x5 x6 (1 : Int32) (up σ 141 32 w0)
def J_X8_comesTo_b62  (x1 : Int32) (x2 : Int32) (x4 : Int32) (w0 : Int32) (σ : Sg) : Option (Int32 × Sg) :=
  (if inb ((37 : Int32) + x1) 54 = true then (bd1 (J_X8_stepTo x1 (σ 157 ((37 : Int32) + x1).toNatClampNeg) x2 w0 σ) fun r78 => (if 0 ≤ r78 then (bd1 (J_X8_onIt r78 σ) fun r97 => (J_X8_comesTo_b100   x1 x2 x4 w0 r78 r97 σ)) else (J_X8_comesTo_b100   x1 x2 x4 w0 r78 (-4 : Int32) σ))) else none)
set_option maxHeartbeats 4000000 in
theorem A_X8_comesTo_b62 (K : KT) {N : Nat} (hN : NT ≤ N)  (x1 : Int32) (x2 : Int32) (x4 : Int32) (w0 : Int32) (σ : Sg) : AG K mX8_comesTo N (fun a : Int32 × Sg => (some (.int a.1), N, R0, a.2)) (J_X8_comesTo_b62   x1 x2 x4 w0 σ) 62 [some (.ref 141), some (.int x1), some (.int x2), none, some (.int x4), none, none, none, none] [.int w0] σ := by
  unfold J_X8_comesTo_b62
  refine ag_istore_5 (q := 64) dX8_comesTo_62 rfl (Nat.le_of_ble_eq_true rfl) rfl ?_
  refine ag_aload_0 (q := 65) dX8_comesTo_64 rfl ?_
  refine ag_iload_1 (q := 66) dX8_comesTo_65 rfl ?_
  refine ag_aload_0 (q := 67) dX8_comesTo_66 rfl ?_
  refine ag_getR (q := 70) dX8_comesTo_67 rfl fl8_55 (Nat.lt_of_lt_of_le (by decide : 141 < NT) hN) (congrArg Prod.fst s_141) rfl r_141_31 ?_
  refine ag_bipush (q := 72) (v := 37) dX8_comesTo_70 rfl (by decide) ?_
  refine ag_iload_1 (q := 73) dX8_comesTo_72 rfl ?_
  refine ag_iadd (q := 74) dX8_comesTo_73 rfl ?_
  refine ag_iald (q := 75) dX8_comesTo_74 rfl (Nat.lt_of_lt_of_le (by decide : 157 < NT) hN) s_157 ?_
  refine ag_iload_2 (q := 76) dX8_comesTo_75 rfl ?_
  refine ag_iload_5 (q := 78) dX8_comesTo_76 rfl ?_
  refine ag_callV_pI (q := 81) (av := [.int _, .int _, .int _, .int _]) (rest := []) dX8_comesTo_78 rfl lk8_204 (C_X8_stepTo hN x1 (σ 157 ((37 : Int32) + x1).toNatClampNeg) x2 w0 _) (by decide) (Nat.le_of_ble_eq_true rfl) (Nat.lt_of_lt_of_le (by decide : 141 < NT) hN) (congrArg Prod.fst s_141) (by decide) (fun _ => rfl) (Nat.le_of_ble_eq_true rfl) rfl (fun r78 e78 => ?_)
  refine ag_istore_6 (q := 83) dX8_comesTo_81 rfl (Nat.le_of_ble_eq_true rfl) rfl ?_
  refine ag_aload_0 (q := 84) dX8_comesTo_83 rfl ?_
  refine ag_iload_6 (q := 86) dX8_comesTo_84 rfl ?_
  refine ag_if_ge (tgt := 94) (q := 89) dX8_comesTo_86 rfl rfl ?_ ?_
  · refine ag_aload_0 (q := 95) dX8_comesTo_94 rfl ?_
    refine ag_iload_6 (q := 97) dX8_comesTo_95 rfl ?_
    refine ag_callV_pI (q := 100) (av := [.int _]) (rest := [.ref _]) dX8_comesTo_97 rfl lk8_189 (C_X8_onIt hN r78 _) (by decide) (Nat.le_of_ble_eq_true rfl) (Nat.lt_of_lt_of_le (by decide : 141 < NT) hN) (congrArg Prod.fst s_141) (by decide) (fun _ => rfl) (Nat.le_of_ble_eq_true rfl) rfl (fun r97 e97 => ?_)
    exact A_X8_comesTo_b100 K hN   x1 x2 x4 w0 r78 r97 σ
  refine ag_bipush (q := 91) (v := -4) dX8_comesTo_89 rfl (by decide) ?_
  refine ag_goto (q := 100) dX8_comesTo_91 rfl ?_
  exact A_X8_comesTo_b100 K hN   x1 x2 x4 w0 r78 (-4 : Int32) σ
def J_X8_comesTo_b40  (x1 : Int32) (x2 : Int32) (x3 : Int32) (x4 : Int32) (σ : Sg) : Option (Int32 × Sg) :=
  (if x3 = 0 then (J_X8_comesTo_b62   x1 x2 x4 (0 : Int32) σ) else (if x4 = (2 : Int32) then (J_X8_comesTo_b62   x1 x2 x4 (0 : Int32) σ) else (bd1 (J_X8_isSnow  σ) fun r51 => (if r51 = 0 then (J_X8_comesTo_b62   x1 x2 x4 (1 : Int32) σ) else (J_X8_comesTo_b62   x1 x2 x4 (0 : Int32) σ)))))
set_option maxHeartbeats 4000000 in
theorem A_X8_comesTo_b40 (K : KT) {N : Nat} (hN : NT ≤ N)  (x1 : Int32) (x2 : Int32) (x3 : Int32) (x4 : Int32) (σ : Sg) : AG K mX8_comesTo N (fun a : Int32 × Sg => (some (.int a.1), N, R0, a.2)) (J_X8_comesTo_b40   x1 x2 x3 x4 σ) 40 [some (.ref 141), some (.int x1), some (.int x2), some (.int x3), some (.int x4), none, none, none, none] [] σ := by
  unfold J_X8_comesTo_b40
  refine ag_iload_3 (q := 41) dX8_comesTo_40 rfl ?_
  refine ag_if_eq (tgt := 61) (q := 44) dX8_comesTo_41 rfl rfl ?_ ?_
  · refine ag_iconst (q := 62) (v := 0) dX8_comesTo_61 rfl (by decide) ?_
    refine ag_kill_3 ?_
    exact A_X8_comesTo_b62 K hN   x1 x2 x4 (0 : Int32) σ
  refine ag_iload_4 (q := 46) dX8_comesTo_44 rfl ?_
  refine ag_iconst (q := 47) (v := 2) dX8_comesTo_46 rfl (by decide) ?_
  refine ag_icmp_eq (tgt := 61) (q := 50) dX8_comesTo_47 rfl rfl ?_ ?_
  · refine ag_iconst (q := 62) (v := 0) dX8_comesTo_61 rfl (by decide) ?_
    refine ag_kill_3 ?_
    exact A_X8_comesTo_b62 K hN   x1 x2 x4 (0 : Int32) σ
  refine ag_aload_0 (q := 51) dX8_comesTo_50 rfl ?_
  refine ag_callV_pI (q := 54) (av := []) (rest := []) dX8_comesTo_51 rfl lk8_201 (C_X8_isSnow hN  _) (by decide) (Nat.le_of_ble_eq_true rfl) (Nat.lt_of_lt_of_le (by decide : 141 < NT) hN) (congrArg Prod.fst s_141) (by decide) (fun _ => rfl) (Nat.le_of_ble_eq_true rfl) rfl (fun r51 e51 => ?_)
  refine ag_if_ne (tgt := 61) (q := 57) dX8_comesTo_54 rfl rfl ?_ ?_
  · refine ag_iconst (q := 62) (v := 0) dX8_comesTo_61 rfl (by decide) ?_
    refine ag_kill_3 ?_
    exact A_X8_comesTo_b62 K hN   x1 x2 x4 (0 : Int32) σ
  refine ag_iconst (q := 58) (v := 1) dX8_comesTo_57 rfl (by decide) ?_
  refine ag_goto (q := 62) dX8_comesTo_58 rfl ?_
  refine ag_kill_3 ?_
  exact A_X8_comesTo_b62 K hN   x1 x2 x4 (1 : Int32) σ
def J_X8_comesTo (a1 : Int32) (a2 : Int32) (a3 : Int32) (σ : Sg) : Option (Int32 × Sg) :=
  (bd1 (J_X8_kindOf a1 σ) fun r2 => (if r2 = (2 : Int32) then (if inb a1 8 = true then (if ((up σ 141 32 (-4 : Int32)) 144 a1.toNatClampNeg) = 0 then (if a2 = (0 : Int32) then (J_X8_comesTo_b40   a1 a2 a3 r2 (up σ 141 32 (-4 : Int32))) else (some ((-4 : Int32), (up σ 141 32 (-4 : Int32))))) else (if a2 = (2 : Int32) then (J_X8_comesTo_b40   a1 a2 a3 r2 (up σ 141 32 (-4 : Int32))) else (some ((-4 : Int32), (up σ 141 32 (-4 : Int32)))))) else none) else (J_X8_comesTo_b40   a1 a2 a3 r2 (up σ 141 32 (-4 : Int32)))))
set_option maxHeartbeats 4000000 in
theorem A_X8_comesTo (K : KT) {N : Nat} (hN : NT ≤ N) (a1 : Int32) (a2 : Int32) (a3 : Int32) (σ : Sg) : AG K mX8_comesTo N (fun a : Int32 × Sg => (some (.int a.1), N, R0, a.2)) (J_X8_comesTo a1 a2 a3 σ) 0 [some (.ref 141), some (.int a1), some (.int a2), some (.int a3), none, none, none, none, none] [] σ := by
  unfold J_X8_comesTo
  refine ag_aload_0 (q := 1) dX8_comesTo_0 rfl ?_
  refine ag_iload_1 (q := 2) dX8_comesTo_1 rfl ?_
  refine ag_callV_pI (q := 5) (av := [.int _]) (rest := []) dX8_comesTo_2 rfl lk8_192 (C_X8_kindOf hN a1 _) (by decide) (Nat.le_of_ble_eq_true rfl) (Nat.lt_of_lt_of_le (by decide : 141 < NT) hN) (congrArg Prod.fst s_141) (by decide) (fun _ => rfl) (Nat.le_of_ble_eq_true rfl) rfl (fun r2 e2 => ?_)
  refine ag_istore_4 (q := 7) dX8_comesTo_5 rfl (Nat.le_of_ble_eq_true rfl) rfl ?_
  refine ag_aload_0 (q := 8) dX8_comesTo_7 rfl ?_
  refine ag_bipush (q := 10) (v := -4) dX8_comesTo_8 rfl (by decide) ?_
  refine ag_putI (q := 13) dX8_comesTo_10 rfl fl8_198 (Nat.lt_of_lt_of_le (by decide : 141 < NT) hN) (congrArg Prod.fst s_141) rfl ?_
  refine ag_iload_4 (q := 15) dX8_comesTo_13 rfl ?_
  refine ag_iconst (q := 16) (v := 2) dX8_comesTo_15 rfl (by decide) ?_
  refine ag_icmp_ne (tgt := 40) (q := 19) dX8_comesTo_16 rfl rfl ?_ ?_
  · exact A_X8_comesTo_b40 K hN   a1 a2 a3 r2 (up σ 141 32 (-4 : Int32))
  refine ag_iload_2 (q := 20) dX8_comesTo_19 rfl ?_
  refine ag_aload_0 (q := 21) dX8_comesTo_20 rfl ?_
  refine ag_getR (q := 24) dX8_comesTo_21 rfl fl8_16 (Nat.lt_of_lt_of_le (by decide : 141 < NT) hN) (congrArg Prod.fst s_141) rfl r_141_5 ?_
  refine ag_iload_1 (q := 25) dX8_comesTo_24 rfl ?_
  refine ag_iald (q := 26) dX8_comesTo_25 rfl (Nat.lt_of_lt_of_le (by decide : 144 < NT) hN) s_144 ?_
  refine ag_if_ne (tgt := 33) (q := 29) dX8_comesTo_26 rfl rfl ?_ ?_
  · refine ag_iconst (q := 34) (v := 2) dX8_comesTo_33 rfl (by decide) ?_
    refine ag_icmp_eq (tgt := 40) (q := 37) dX8_comesTo_34 rfl rfl ?_ ?_
    · exact A_X8_comesTo_b40 K hN   a1 a2 a3 r2 (up σ 141 32 (-4 : Int32))
    refine ag_bipush (q := 39) (v := -4) dX8_comesTo_37 rfl (by decide) ?_
    exact ag_iret dX8_comesTo_39 rfl rfl
  refine ag_iconst (q := 30) (v := 0) dX8_comesTo_29 rfl (by decide) ?_
  refine ag_goto (q := 34) dX8_comesTo_30 rfl ?_
  refine ag_icmp_eq (tgt := 40) (q := 37) dX8_comesTo_34 rfl rfl ?_ ?_
  · exact A_X8_comesTo_b40 K hN   a1 a2 a3 r2 (up σ 141 32 (-4 : Int32))
  refine ag_bipush (q := 39) (v := -4) dX8_comesTo_37 rfl (by decide) ?_
  exact ag_iret dX8_comesTo_39 rfl rfl
theorem C_X8_comesTo {N : Nat} (hN : NT ≤ N) (a1 : Int32) (a2 : Int32) (a3 : Int32) (σ : Sg) : ∀ r s', J_X8_comesTo a1 a2 a3 σ = some (r, s') → AMc yX8_comesTo mX8_comesTo [.ref 141, .int a1, .int a2, .int a3] N R0 σ (some (.int r), N, R0, s') := fun r s' e => AMc.of (L := [some (.ref 141), some (.int a1), some (.int a2), some (.int a3), none, none, none, none, none]) (by decide) rfl (fun _ => rfl) (fun _ => Nat.le_of_ble_eq_true rfl) (Nat.le_refl _) (fun K => A_X8_comesTo K hN a1 a2 a3 σ _ e)
def J_X8_stands_b53  (x1 : Int32) (w0 : Int32) (σ : Sg) : Option (Unit × Sg) :=
  (if inb x1 8 = true then (if (σ 143 x1.toNatClampNeg) = (2 : Int32) then (if w0 = 0 then (some ((), (up σ 157 53 ((σ 157 53) ||| (0 : Int32))))) else (some ((), (up σ 157 53 ((σ 157 53) ||| ((1 : Int32) <<< (x1 &&& 31))))))) else (some ((), (up σ 157 53 ((σ 157 53) ||| (0 : Int32)))))) else none)
set_option maxHeartbeats 4000000 in
theorem A_X8_stands_b53 (K : KT) {N : Nat} (hN : NT ≤ N)  (x1 : Int32) (w0 : Int32) (σ : Sg) : AG K mX8_stands N (fun a : Unit × Sg => (none, N, R0, a.2)) (J_X8_stands_b53   x1 w0 σ) 53 [some (.ref 141), some (.int x1), none, none] [.int w0] σ := by
  unfold J_X8_stands_b53
  refine ag_istore_3 (q := 54) dX8_stands_53 rfl (Nat.le_of_ble_eq_true rfl) rfl ?_
  refine ag_aload_0 (q := 55) dX8_stands_54 rfl ?_
  refine ag_getR (q := 58) dX8_stands_55 rfl fl8_55 (Nat.lt_of_lt_of_le (by decide : 141 < NT) hN) (congrArg Prod.fst s_141) rfl r_141_31 ?_
  refine ag_bipush (q := 60) (v := 53) dX8_stands_58 rfl (by decide) ?_
  refine ag_dup2 (q := 61) dX8_stands_60 rfl rfl rfl ?_
  refine ag_ialdK (q := 62) (k := 53) dX8_stands_61 rfl (Nat.lt_of_lt_of_le (by decide : 157 < NT) hN) s_157 (by decide) (by decide) ?_
  refine ag_aload_0 (q := 63) dX8_stands_62 rfl ?_
  refine ag_getR (q := 66) dX8_stands_63 rfl fl8_13 (Nat.lt_of_lt_of_le (by decide : 141 < NT) hN) (congrArg Prod.fst s_141) rfl r_141_4 ?_
  refine ag_iload_1 (q := 67) dX8_stands_66 rfl ?_
  refine ag_iald (q := 68) dX8_stands_67 rfl (Nat.lt_of_lt_of_le (by decide : 143 < NT) hN) s_143 ?_
  refine ag_iconst (q := 69) (v := 2) dX8_stands_68 rfl (by decide) ?_
  refine ag_icmp_ne (tgt := 82) (q := 72) dX8_stands_69 rfl rfl ?_ ?_
  · refine ag_iconst (q := 83) (v := 0) dX8_stands_82 rfl (by decide) ?_
    refine ag_ior (q := 84) dX8_stands_83 rfl ?_
    refine ag_iastK (q := 85) (k := 53) dX8_stands_84 rfl (Nat.lt_of_lt_of_le (by decide : 157 < NT) hN) s_157 (by decide) (by decide) ?_
    exact ag_vret dX8_stands_85 rfl rfl
  refine ag_iload_3 (q := 73) dX8_stands_72 rfl ?_
  refine ag_if_eq (tgt := 82) (q := 76) dX8_stands_73 rfl rfl ?_ ?_
  · refine ag_iconst (q := 83) (v := 0) dX8_stands_82 rfl (by decide) ?_
    refine ag_ior (q := 84) dX8_stands_83 rfl ?_
    refine ag_iastK (q := 85) (k := 53) dX8_stands_84 rfl (Nat.lt_of_lt_of_le (by decide : 157 < NT) hN) s_157 (by decide) (by decide) ?_
    exact ag_vret dX8_stands_85 rfl rfl
  refine ag_iconst (q := 77) (v := 1) dX8_stands_76 rfl (by decide) ?_
  refine ag_iload_1 (q := 78) dX8_stands_77 rfl ?_
  refine ag_ishl (q := 79) dX8_stands_78 rfl ?_
  refine ag_goto (q := 83) dX8_stands_79 rfl ?_
  refine ag_ior (q := 84) dX8_stands_83 rfl ?_
  refine ag_iastK (q := 85) (k := 53) dX8_stands_84 rfl (Nat.lt_of_lt_of_le (by decide : 157 < NT) hN) s_157 (by decide) (by decide) ?_
  exact ag_vret dX8_stands_85 rfl rfl
def J_X8_stands (a1 : Int32) (a2 : Int32) (σ : Sg) : Option (Unit × Sg) :=
  (if inb ((37 : Int32) + a1) 54 = true then (if inb a1 8 = true then (if ((up σ 157 ((37 : Int32) + a1).toNatClampNeg a2) 144 a1.toNatClampNeg) = 0 then (if ((up σ 157 ((37 : Int32) + a1).toNatClampNeg a2) 141 1) ≤ a2 then (J_X8_stands_b53   a1 (0 : Int32) (up σ 157 ((37 : Int32) + a1).toNatClampNeg a2)) else (J_X8_stands_b53   a1 (1 : Int32) (up σ 157 ((37 : Int32) + a1).toNatClampNeg a2))) else (if a2 < (((up σ 157 ((37 : Int32) + a1).toNatClampNeg a2) 141 0) - ((up σ 157 ((37 : Int32) + a1).toNatClampNeg a2) 141 1)) then (J_X8_stands_b53   a1 (0 : Int32) (up σ 157 ((37 : Int32) + a1).toNatClampNeg a2)) else (J_X8_stands_b53   a1 (1 : Int32) (up σ 157 ((37 : Int32) + a1).toNatClampNeg a2)))) else none) else none)
set_option maxHeartbeats 4000000 in
theorem A_X8_stands (K : KT) {N : Nat} (hN : NT ≤ N) (a1 : Int32) (a2 : Int32) (σ : Sg) : AG K mX8_stands N (fun a : Unit × Sg => (none, N, R0, a.2)) (J_X8_stands a1 a2 σ) 0 [some (.ref 141), some (.int a1), some (.int a2), none] [] σ := by
  unfold J_X8_stands
  refine ag_aload_0 (q := 1) dX8_stands_0 rfl ?_
  refine ag_getR (q := 4) dX8_stands_1 rfl fl8_55 (Nat.lt_of_lt_of_le (by decide : 141 < NT) hN) (congrArg Prod.fst s_141) rfl r_141_31 ?_
  refine ag_bipush (q := 6) (v := 37) dX8_stands_4 rfl (by decide) ?_
  refine ag_iload_1 (q := 7) dX8_stands_6 rfl ?_
  refine ag_iadd (q := 8) dX8_stands_7 rfl ?_
  refine ag_iload_2 (q := 9) dX8_stands_8 rfl ?_
  refine ag_iast (q := 10) dX8_stands_9 rfl (Nat.lt_of_lt_of_le (by decide : 157 < NT) hN) s_157 ?_
  refine ag_aload_0 (q := 11) dX8_stands_10 rfl ?_
  refine ag_getR (q := 14) dX8_stands_11 rfl fl8_16 (Nat.lt_of_lt_of_le (by decide : 141 < NT) hN) (congrArg Prod.fst s_141) rfl r_141_5 ?_
  refine ag_iload_1 (q := 15) dX8_stands_14 rfl ?_
  refine ag_iald (q := 16) dX8_stands_15 rfl (Nat.lt_of_lt_of_le (by decide : 144 < NT) hN) s_144 ?_
  refine ag_if_ne (tgt := 35) (q := 19) dX8_stands_16 rfl rfl ?_ ?_
  · refine ag_iload_2 (q := 36) dX8_stands_35 rfl ?_
    refine ag_aload_0 (q := 37) dX8_stands_36 rfl ?_
    refine ag_getI (q := 40) dX8_stands_37 rfl fl8_119 (Nat.lt_of_lt_of_le (by decide : 141 < NT) hN) (congrArg Prod.fst s_141) rfl ?_
    refine ag_aload_0 (q := 41) dX8_stands_40 rfl ?_
    refine ag_getI (q := 44) dX8_stands_41 rfl fl8_159 (Nat.lt_of_lt_of_le (by decide : 141 < NT) hN) (congrArg Prod.fst s_141) rfl ?_
    refine ag_isub (q := 45) dX8_stands_44 rfl ?_
    refine ag_icmp_lt (tgt := 52) (q := 48) dX8_stands_45 rfl rfl ?_ ?_
    · refine ag_iconst (q := 53) (v := 0) dX8_stands_52 rfl (by decide) ?_
      refine ag_kill_2 ?_
      exact A_X8_stands_b53 K hN   a1 (0 : Int32) (up σ 157 ((37 : Int32) + a1).toNatClampNeg a2)
    refine ag_iconst (q := 49) (v := 1) dX8_stands_48 rfl (by decide) ?_
    refine ag_goto (q := 53) dX8_stands_49 rfl ?_
    refine ag_kill_2 ?_
    exact A_X8_stands_b53 K hN   a1 (1 : Int32) (up σ 157 ((37 : Int32) + a1).toNatClampNeg a2)
  refine ag_iload_2 (q := 20) dX8_stands_19 rfl ?_
  refine ag_aload_0 (q := 21) dX8_stands_20 rfl ?_
  refine ag_getI (q := 24) dX8_stands_21 rfl fl8_159 (Nat.lt_of_lt_of_le (by decide : 141 < NT) hN) (congrArg Prod.fst s_141) rfl ?_
  refine ag_icmp_ge (tgt := 31) (q := 27) dX8_stands_24 rfl rfl ?_ ?_
  · refine ag_iconst (q := 32) (v := 0) dX8_stands_31 rfl (by decide) ?_
    refine ag_goto (q := 53) dX8_stands_32 rfl ?_
    refine ag_kill_2 ?_
    exact A_X8_stands_b53 K hN   a1 (0 : Int32) (up σ 157 ((37 : Int32) + a1).toNatClampNeg a2)
  refine ag_iconst (q := 28) (v := 1) dX8_stands_27 rfl (by decide) ?_
  refine ag_goto (q := 53) dX8_stands_28 rfl ?_
  refine ag_kill_2 ?_
  exact A_X8_stands_b53 K hN   a1 (1 : Int32) (up σ 157 ((37 : Int32) + a1).toNatClampNeg a2)
theorem C_X8_stands {N : Nat} (hN : NT ≤ N) (a1 : Int32) (a2 : Int32) (σ : Sg) : ∀ r s', J_X8_stands a1 a2 σ = some (r, s') → AMc yX8_stands mX8_stands [.ref 141, .int a1, .int a2] N R0 σ (none, N, R0, s') := fun r s' e => AMc.of (L := [some (.ref 141), some (.int a1), some (.int a2), none]) (by decide) rfl (fun _ => rfl) (fun _ => Nat.le_of_ble_eq_true rfl) (Nat.le_refl _) (fun K => A_X8_stands K hN a1 a2 σ _ e)
def J_X8_grazes_b62  (y2 : Int32 → Sg → Option (Unit × Sg)) (x1 : Int32) (x2 : Int32) (σ : Sg) : Option (Unit × Sg) :=
  (if x2 = (36 : Int32) then (y2 (x1 + (1)) σ) else (if inb ((45 : Int32) + x1) 54 = true then (if inb ((45 : Int32) + x1) 54 = true then (if inb ((45 : Int32) + x1) 54 = true then (if ((up σ 157 ((45 : Int32) + x1).toNatClampNeg ((σ 157 ((45 : Int32) + x1).toNatClampNeg) + (1 : Int32))) 157 ((45 : Int32) + x1).toNatClampNeg) ≤ ((up σ 157 ((45 : Int32) + x1).toNatClampNeg ((σ 157 ((45 : Int32) + x1).toNatClampNeg) + (1 : Int32))) 141 7) then (if inb ((37 : Int32) + x1) 54 = true then (y2 (x1 + (1)) (up (up σ 157 ((45 : Int32) + x1).toNatClampNeg ((σ 157 ((45 : Int32) + x1).toNatClampNeg) + (1 : Int32))) 157 ((37 : Int32) + x1).toNatClampNeg x2)) else none) else (if inb ((37 : Int32) + x1) 54 = true then (y2 (x1 + (1)) (up (up σ 157 ((45 : Int32) + x1).toNatClampNeg ((σ 157 ((45 : Int32) + x1).toNatClampNeg) + (1 : Int32))) 157 ((37 : Int32) + x1).toNatClampNeg (36 : Int32))) else none)) else none) else none) else none))
set_option maxHeartbeats 4000000 in
theorem A_X8_grazes_b62 (K : KT) {N : Nat} (hN : NT ≤ N)  (y2 : Int32 → Sg → Option (Unit × Sg)) (hy2 : ∀ (x1 : Int32) (σ : Sg), AG K mX8_grazes N (fun a : Unit × Sg => (none, N, R0, a.2)) (y2 x1 σ) 2 [some (.ref 141), some (.int x1), none] [] σ) (x1 : Int32) (x2 : Int32) (σ : Sg) : AG K mX8_grazes N (fun a : Unit × Sg => (none, N, R0, a.2)) (J_X8_grazes_b62  y2 x1 x2 σ) 62 [some (.ref 141), some (.int x1), some (.int x2)] [] σ := by
  unfold J_X8_grazes_b62
  refine ag_iload_2 (q := 63) dX8_grazes_62 rfl ?_
  refine ag_bipush (q := 65) (v := 36) dX8_grazes_63 rfl (by decide) ?_
  refine ag_icmp_eq (tgt := 112) (q := 68) dX8_grazes_65 rfl rfl ?_ ?_
  · refine ag_iinc_1 (q := 115) (d := (1)) dX8_grazes_112 rfl (Nat.le_of_ble_eq_true rfl) rfl (by decide) ?_
    refine ag_goto (q := 2) dX8_grazes_115 rfl ?_
    refine ag_kill_2 ?_
    exact hy2 (x1 + (1)) σ
  refine ag_aload_0 (q := 69) dX8_grazes_68 rfl ?_
  refine ag_getR (q := 72) dX8_grazes_69 rfl fl8_55 (Nat.lt_of_lt_of_le (by decide : 141 < NT) hN) (congrArg Prod.fst s_141) rfl r_141_31 ?_
  refine ag_bipush (q := 74) (v := 45) dX8_grazes_72 rfl (by decide) ?_
  refine ag_iload_1 (q := 75) dX8_grazes_74 rfl ?_
  refine ag_iadd (q := 76) dX8_grazes_75 rfl ?_
  refine ag_dup2 (q := 77) dX8_grazes_76 rfl rfl rfl ?_
  refine ag_iald (q := 78) dX8_grazes_77 rfl (Nat.lt_of_lt_of_le (by decide : 157 < NT) hN) s_157 ?_
  refine ag_iconst (q := 79) (v := 1) dX8_grazes_78 rfl (by decide) ?_
  refine ag_iadd (q := 80) dX8_grazes_79 rfl ?_
  refine ag_iast (q := 81) dX8_grazes_80 rfl (Nat.lt_of_lt_of_le (by decide : 157 < NT) hN) s_157 ?_
  refine ag_aload_0 (q := 82) dX8_grazes_81 rfl ?_
  refine ag_getR (q := 85) dX8_grazes_82 rfl fl8_55 (Nat.lt_of_lt_of_le (by decide : 141 < NT) hN) (congrArg Prod.fst s_141) rfl r_141_31 ?_
  refine ag_bipush (q := 87) (v := 37) dX8_grazes_85 rfl (by decide) ?_
  refine ag_iload_1 (q := 88) dX8_grazes_87 rfl ?_
  refine ag_iadd (q := 89) dX8_grazes_88 rfl ?_
  refine ag_aload_0 (q := 90) dX8_grazes_89 rfl ?_
  refine ag_getR (q := 93) dX8_grazes_90 rfl fl8_55 (Nat.lt_of_lt_of_le (by decide : 141 < NT) hN) (congrArg Prod.fst s_141) rfl r_141_31 ?_
  refine ag_bipush (q := 95) (v := 45) dX8_grazes_93 rfl (by decide) ?_
  refine ag_iload_1 (q := 96) dX8_grazes_95 rfl ?_
  refine ag_iadd (q := 97) dX8_grazes_96 rfl ?_
  refine ag_iald (q := 98) dX8_grazes_97 rfl (Nat.lt_of_lt_of_le (by decide : 157 < NT) hN) s_157 ?_
  refine ag_aload_0 (q := 99) dX8_grazes_98 rfl ?_
  refine ag_getI (q := 102) dX8_grazes_99 rfl fl8_169 (Nat.lt_of_lt_of_le (by decide : 141 < NT) hN) (congrArg Prod.fst s_141) rfl ?_
  refine ag_icmp_le (tgt := 110) (q := 105) dX8_grazes_102 rfl rfl ?_ ?_
  · refine ag_iload_2 (q := 111) dX8_grazes_110 rfl ?_
    refine ag_iast (q := 112) dX8_grazes_111 rfl (Nat.lt_of_lt_of_le (by decide : 157 < NT) hN) s_157 ?_
    refine ag_iinc_1 (q := 115) (d := (1)) dX8_grazes_112 rfl (Nat.le_of_ble_eq_true rfl) rfl (by decide) ?_
    refine ag_goto (q := 2) dX8_grazes_115 rfl ?_
    refine ag_kill_2 ?_
    exact hy2 (x1 + (1)) (up (up σ 157 ((45 : Int32) + x1).toNatClampNeg ((σ 157 ((45 : Int32) + x1).toNatClampNeg) + (1 : Int32))) 157 ((37 : Int32) + x1).toNatClampNeg x2)
  refine ag_bipush (q := 107) (v := 36) dX8_grazes_105 rfl (by decide) ?_
  refine ag_goto (q := 111) dX8_grazes_107 rfl ?_
  refine ag_iast (q := 112) dX8_grazes_111 rfl (Nat.lt_of_lt_of_le (by decide : 157 < NT) hN) s_157 ?_
  refine ag_iinc_1 (q := 115) (d := (1)) dX8_grazes_112 rfl (Nat.le_of_ble_eq_true rfl) rfl (by decide) ?_
  refine ag_goto (q := 2) dX8_grazes_115 rfl ?_
  refine ag_kill_2 ?_
  exact hy2 (x1 + (1)) (up (up σ 157 ((45 : Int32) + x1).toNatClampNeg ((σ 157 ((45 : Int32) + x1).toNatClampNeg) + (1 : Int32))) 157 ((37 : Int32) + x1).toNatClampNeg (36 : Int32))
def J_X8_grazes_b2  : Nat → Int32 → Sg → Option (Unit × Sg)
  | 0, _, _ => none
  | k + 1, x1, σ =>
    (if (σ 141 3) ≤ x1 then (some ((), σ)) else (if inb ((37 : Int32) + x1) 54 = true then (if (σ 157 ((37 : Int32) + x1).toNatClampNeg) = (36 : Int32) then (J_X8_grazes_b62  (fun x1 σ => J_X8_grazes_b2   k x1 σ) x1 (σ 157 ((37 : Int32) + x1).toNatClampNeg) σ) else (if inb ((1 : Int32) + (σ 157 ((37 : Int32) + x1).toNatClampNeg)) 54 = true then (if (σ 157 ((1 : Int32) + (σ 157 ((37 : Int32) + x1).toNatClampNeg)).toNatClampNeg) ≤ 0 then (J_X8_grazes_b62  (fun x1 σ => J_X8_grazes_b2   k x1 σ) x1 (σ 157 ((37 : Int32) + x1).toNatClampNeg) σ) else (if inb ((1 : Int32) + (σ 157 ((37 : Int32) + x1).toNatClampNeg)) 54 = true then (if inb ((1 : Int32) + (σ 157 ((37 : Int32) + x1).toNatClampNeg)) 54 = true then (if inb ((45 : Int32) + x1) 54 = true then (J_X8_grazes_b2   k (x1 + (1)) (up (up σ 157 ((1 : Int32) + (σ 157 ((37 : Int32) + x1).toNatClampNeg)).toNatClampNeg ((σ 157 ((1 : Int32) + (σ 157 ((37 : Int32) + x1).toNatClampNeg)).toNatClampNeg) - (1 : Int32))) 157 ((45 : Int32) + x1).toNatClampNeg (0 : Int32))) else none) else none) else none)) else none)) else none))
set_option maxHeartbeats 4000000 in
theorem A_X8_grazes_b2 (K : KT) {N : Nat} (hN : NT ≤ N)  : ∀ (k : Nat) (x1 : Int32) (σ : Sg), AG K mX8_grazes N (fun a : Unit × Sg => (none, N, R0, a.2)) (J_X8_grazes_b2   k x1 σ) 2 [some (.ref 141), some (.int x1), none] [] σ := by
  intro k
  induction k with
  | zero => intro x1 σ; exact ag_none
  | succ k ih =>
    intro x1 σ
    rw [J_X8_grazes_b2]
    refine ag_iload_1 (q := 3) dX8_grazes_2 rfl ?_
    refine ag_aload_0 (q := 4) dX8_grazes_3 rfl ?_
    refine ag_getI (q := 7) dX8_grazes_4 rfl fl8_112 (Nat.lt_of_lt_of_le (by decide : 141 < NT) hN) (congrArg Prod.fst s_141) rfl ?_
    refine ag_icmp_ge (tgt := 118) (q := 10) dX8_grazes_7 rfl rfl ?_ ?_
    · exact ag_vret dX8_grazes_118 rfl rfl
    refine ag_aload_0 (q := 11) dX8_grazes_10 rfl ?_
    refine ag_getR (q := 14) dX8_grazes_11 rfl fl8_55 (Nat.lt_of_lt_of_le (by decide : 141 < NT) hN) (congrArg Prod.fst s_141) rfl r_141_31 ?_
    refine ag_bipush (q := 16) (v := 37) dX8_grazes_14 rfl (by decide) ?_
    refine ag_iload_1 (q := 17) dX8_grazes_16 rfl ?_
    refine ag_iadd (q := 18) dX8_grazes_17 rfl ?_
    refine ag_iald (q := 19) dX8_grazes_18 rfl (Nat.lt_of_lt_of_le (by decide : 157 < NT) hN) s_157 ?_
    refine ag_istore_2 (q := 20) dX8_grazes_19 rfl (Nat.le_of_ble_eq_true rfl) rfl ?_
    refine ag_iload_2 (q := 21) dX8_grazes_20 rfl ?_
    refine ag_bipush (q := 23) (v := 36) dX8_grazes_21 rfl (by decide) ?_
    refine ag_icmp_eq (tgt := 62) (q := 26) dX8_grazes_23 rfl rfl ?_ ?_
    · exact A_X8_grazes_b62 K hN  (fun x1 σ => J_X8_grazes_b2   k x1 σ) (fun x1 σ => ih x1 σ) x1 (σ 157 ((37 : Int32) + x1).toNatClampNeg) σ
    refine ag_aload_0 (q := 27) dX8_grazes_26 rfl ?_
    refine ag_getR (q := 30) dX8_grazes_27 rfl fl8_55 (Nat.lt_of_lt_of_le (by decide : 141 < NT) hN) (congrArg Prod.fst s_141) rfl r_141_31 ?_
    refine ag_iconst (q := 31) (v := 1) dX8_grazes_30 rfl (by decide) ?_
    refine ag_iload_2 (q := 32) dX8_grazes_31 rfl ?_
    refine ag_iadd (q := 33) dX8_grazes_32 rfl ?_
    refine ag_iald (q := 34) dX8_grazes_33 rfl (Nat.lt_of_lt_of_le (by decide : 157 < NT) hN) s_157 ?_
    refine ag_if_le (tgt := 62) (q := 37) dX8_grazes_34 rfl rfl ?_ ?_
    · exact A_X8_grazes_b62 K hN  (fun x1 σ => J_X8_grazes_b2   k x1 σ) (fun x1 σ => ih x1 σ) x1 (σ 157 ((37 : Int32) + x1).toNatClampNeg) σ
    refine ag_aload_0 (q := 38) dX8_grazes_37 rfl ?_
    refine ag_getR (q := 41) dX8_grazes_38 rfl fl8_55 (Nat.lt_of_lt_of_le (by decide : 141 < NT) hN) (congrArg Prod.fst s_141) rfl r_141_31 ?_
    refine ag_iconst (q := 42) (v := 1) dX8_grazes_41 rfl (by decide) ?_
    refine ag_iload_2 (q := 43) dX8_grazes_42 rfl ?_
    refine ag_iadd (q := 44) dX8_grazes_43 rfl ?_
    refine ag_dup2 (q := 45) dX8_grazes_44 rfl rfl rfl ?_
    refine ag_iald (q := 46) dX8_grazes_45 rfl (Nat.lt_of_lt_of_le (by decide : 157 < NT) hN) s_157 ?_
    refine ag_iconst (q := 47) (v := 1) dX8_grazes_46 rfl (by decide) ?_
    refine ag_isub (q := 48) dX8_grazes_47 rfl ?_
    refine ag_iast (q := 49) dX8_grazes_48 rfl (Nat.lt_of_lt_of_le (by decide : 157 < NT) hN) s_157 ?_
    refine ag_aload_0 (q := 50) dX8_grazes_49 rfl ?_
    refine ag_getR (q := 53) dX8_grazes_50 rfl fl8_55 (Nat.lt_of_lt_of_le (by decide : 141 < NT) hN) (congrArg Prod.fst s_141) rfl r_141_31 ?_
    refine ag_bipush (q := 55) (v := 45) dX8_grazes_53 rfl (by decide) ?_
    refine ag_iload_1 (q := 56) dX8_grazes_55 rfl ?_
    refine ag_iadd (q := 57) dX8_grazes_56 rfl ?_
    refine ag_iconst (q := 58) (v := 0) dX8_grazes_57 rfl (by decide) ?_
    refine ag_iast (q := 59) dX8_grazes_58 rfl (Nat.lt_of_lt_of_le (by decide : 157 < NT) hN) s_157 ?_
    refine ag_goto (q := 112) dX8_grazes_59 rfl ?_
    refine ag_iinc_1 (q := 115) (d := (1)) dX8_grazes_112 rfl (Nat.le_of_ble_eq_true rfl) rfl (by decide) ?_
    refine ag_goto (q := 2) dX8_grazes_115 rfl ?_
    refine ag_kill_2 ?_
    exact ih (x1 + (1)) (up (up σ 157 ((1 : Int32) + (σ 157 ((37 : Int32) + x1).toNatClampNeg)).toNatClampNeg ((σ 157 ((1 : Int32) + (σ 157 ((37 : Int32) + x1).toNatClampNeg)).toNatClampNeg) - (1 : Int32))) 157 ((45 : Int32) + x1).toNatClampNeg (0 : Int32))
def J_X8_grazes  (σ : Sg) : Option (Unit × Sg) :=
  (J_X8_grazes_b2   FU (0 : Int32) σ)
set_option maxHeartbeats 4000000 in
theorem A_X8_grazes (K : KT) {N : Nat} (hN : NT ≤ N)  (σ : Sg) : AG K mX8_grazes N (fun a : Unit × Sg => (none, N, R0, a.2)) (J_X8_grazes  σ) 0 [some (.ref 141), none, none] [] σ := by
  unfold J_X8_grazes
  refine ag_iconst (q := 1) (v := 0) dX8_grazes_0 rfl (by decide) ?_
  refine ag_istore_1 (q := 2) dX8_grazes_1 rfl (Nat.le_of_ble_eq_true rfl) rfl ?_
  exact A_X8_grazes_b2 K hN   FU (0 : Int32) σ
theorem C_X8_grazes {N : Nat} (hN : NT ≤ N)  (σ : Sg) : ∀ r s', J_X8_grazes  σ = some (r, s') → AMc yX8_grazes mX8_grazes [.ref 141] N R0 σ (none, N, R0, s') := fun r s' e => AMc.of (L := [some (.ref 141), none, none]) (by decide) rfl (fun _ => rfl) (fun _ => Nat.le_of_ble_eq_true rfl) (Nat.le_refl _) (fun K => A_X8_grazes K hN  σ _ e)
def J_X8_nextDay_b12  : Nat → Int32 → Sg → Option (Unit × Sg)
  | 0, _, _ => none
  | k + 1, x1, σ =>
    (if (σ 141 0) ≤ x1 then (some ((), σ)) else (if (rmI (σ 157 0) (9 : Int32)) = 0 then (if inb ((1 : Int32) + x1) 54 = true then (if inb x1 36 = true then (if (σ 142 x1.toNatClampNeg) = (9 : Int32) then (if inb ((1 : Int32) + x1) 54 = true then (J_X8_nextDay_b12   k (x1 + (1)) (up σ 157 ((1 : Int32) + x1).toNatClampNeg ((σ 157 ((1 : Int32) + x1).toNatClampNeg) + (0 : Int32)))) else none) else (bd1 (J_X8_onIt x1 σ) fun r54 => (if 0 ≤ r54 then (if inb ((1 : Int32) + x1) 54 = true then (J_X8_nextDay_b12   k (x1 + (1)) (up σ 157 ((1 : Int32) + x1).toNatClampNeg ((σ 157 ((1 : Int32) + x1).toNatClampNeg) + (0 : Int32)))) else none) else (if inb ((1 : Int32) + x1) 54 = true then (if (8 : Int32) ≤ (σ 157 ((1 : Int32) + x1).toNatClampNeg) then (if inb ((1 : Int32) + x1) 54 = true then (J_X8_nextDay_b12   k (x1 + (1)) (up σ 157 ((1 : Int32) + x1).toNatClampNeg ((σ 157 ((1 : Int32) + x1).toNatClampNeg) + (0 : Int32)))) else none) else (if inb ((1 : Int32) + x1) 54 = true then (J_X8_nextDay_b12   k (x1 + (1)) (up σ 157 ((1 : Int32) + x1).toNatClampNeg ((σ 157 ((1 : Int32) + x1).toNatClampNeg) + (1 : Int32)))) else none)) else none)))) else none) else none) else (some ((), σ))))
set_option maxHeartbeats 4000000 in
theorem A_X8_nextDay_b12 (K : KT) {N : Nat} (hN : NT ≤ N)  : ∀ (k : Nat) (x1 : Int32) (σ : Sg), AG K mX8_nextDay N (fun a : Unit × Sg => (none, N, R0, a.2)) (J_X8_nextDay_b12   k x1 σ) 12 [some (.ref 141), some (.int x1)] [] σ := by
  intro k
  induction k with
  | zero => intro x1 σ; exact ag_none
  | succ k ih =>
    intro x1 σ
    rw [J_X8_nextDay_b12]
    refine ag_iload_1 (q := 13) dX8_nextDay_12 rfl ?_
    refine ag_aload_0 (q := 14) dX8_nextDay_13 rfl ?_
    refine ag_getI (q := 17) dX8_nextDay_14 rfl fl8_119 (Nat.lt_of_lt_of_le (by decide : 141 < NT) hN) (congrArg Prod.fst s_141) rfl ?_
    refine ag_icmp_ge (tgt := 86) (q := 20) dX8_nextDay_17 rfl rfl ?_ ?_
    · exact ag_vret dX8_nextDay_86 rfl rfl
    refine ag_aload_0 (q := 21) dX8_nextDay_20 rfl ?_
    refine ag_getR (q := 24) dX8_nextDay_21 rfl fl8_55 (Nat.lt_of_lt_of_le (by decide : 141 < NT) hN) (congrArg Prod.fst s_141) rfl r_141_31 ?_
    refine ag_iconst (q := 25) (v := 0) dX8_nextDay_24 rfl (by decide) ?_
    refine ag_ialdK (q := 26) (k := 0) dX8_nextDay_25 rfl (Nat.lt_of_lt_of_le (by decide : 157 < NT) hN) s_157 (by decide) (by decide) ?_
    refine ag_bipush (q := 28) (v := 9) dX8_nextDay_26 rfl (by decide) ?_
    refine ag_iremK (q := 29) dX8_nextDay_28 rfl (by decide) ?_
    refine ag_if_ne (tgt := 86) (q := 32) dX8_nextDay_29 rfl rfl ?_ ?_
    · exact ag_vret dX8_nextDay_86 rfl rfl
    refine ag_aload_0 (q := 33) dX8_nextDay_32 rfl ?_
    refine ag_getR (q := 36) dX8_nextDay_33 rfl fl8_55 (Nat.lt_of_lt_of_le (by decide : 141 < NT) hN) (congrArg Prod.fst s_141) rfl r_141_31 ?_
    refine ag_iconst (q := 37) (v := 1) dX8_nextDay_36 rfl (by decide) ?_
    refine ag_iload_1 (q := 38) dX8_nextDay_37 rfl ?_
    refine ag_iadd (q := 39) dX8_nextDay_38 rfl ?_
    refine ag_dup2 (q := 40) dX8_nextDay_39 rfl rfl rfl ?_
    refine ag_iald (q := 41) dX8_nextDay_40 rfl (Nat.lt_of_lt_of_le (by decide : 157 < NT) hN) s_157 ?_
    refine ag_aload_0 (q := 42) dX8_nextDay_41 rfl ?_
    refine ag_getR (q := 45) dX8_nextDay_42 rfl fl8_7 (Nat.lt_of_lt_of_le (by decide : 141 < NT) hN) (congrArg Prod.fst s_141) rfl r_141_2 ?_
    refine ag_iload_1 (q := 46) dX8_nextDay_45 rfl ?_
    refine ag_iald (q := 47) dX8_nextDay_46 rfl (Nat.lt_of_lt_of_le (by decide : 142 < NT) hN) s_142 ?_
    refine ag_bipush (q := 49) (v := 9) dX8_nextDay_47 rfl (by decide) ?_
    refine ag_icmp_eq (tgt := 77) (q := 52) dX8_nextDay_49 rfl rfl ?_ ?_
    · refine ag_iconst (q := 78) (v := 0) dX8_nextDay_77 rfl (by decide) ?_
      refine ag_iadd (q := 79) dX8_nextDay_78 rfl ?_
      refine ag_iast (q := 80) dX8_nextDay_79 rfl (Nat.lt_of_lt_of_le (by decide : 157 < NT) hN) s_157 ?_
      refine ag_iinc_1 (q := 83) (d := (1)) dX8_nextDay_80 rfl (Nat.le_of_ble_eq_true rfl) rfl (by decide) ?_
      refine ag_goto (q := 12) dX8_nextDay_83 rfl ?_
      exact ih (x1 + (1)) (up σ 157 ((1 : Int32) + x1).toNatClampNeg ((σ 157 ((1 : Int32) + x1).toNatClampNeg) + (0 : Int32)))
    refine ag_aload_0 (q := 53) dX8_nextDay_52 rfl ?_
    refine ag_iload_1 (q := 54) dX8_nextDay_53 rfl ?_
    refine ag_callV_pI (q := 57) (av := [.int _]) (rest := [.int _, .int _, .ref _]) dX8_nextDay_54 rfl lk8_189 (C_X8_onIt hN x1 _) (by decide) (Nat.le_of_ble_eq_true rfl) (Nat.lt_of_lt_of_le (by decide : 141 < NT) hN) (congrArg Prod.fst s_141) (by decide) (fun _ => rfl) (Nat.le_of_ble_eq_true rfl) rfl (fun r54 e54 => ?_)
    refine ag_if_ge (tgt := 77) (q := 60) dX8_nextDay_57 rfl rfl ?_ ?_
    · refine ag_iconst (q := 78) (v := 0) dX8_nextDay_77 rfl (by decide) ?_
      refine ag_iadd (q := 79) dX8_nextDay_78 rfl ?_
      refine ag_iast (q := 80) dX8_nextDay_79 rfl (Nat.lt_of_lt_of_le (by decide : 157 < NT) hN) s_157 ?_
      refine ag_iinc_1 (q := 83) (d := (1)) dX8_nextDay_80 rfl (Nat.le_of_ble_eq_true rfl) rfl (by decide) ?_
      refine ag_goto (q := 12) dX8_nextDay_83 rfl ?_
      exact ih (x1 + (1)) (up σ 157 ((1 : Int32) + x1).toNatClampNeg ((σ 157 ((1 : Int32) + x1).toNatClampNeg) + (0 : Int32)))
    refine ag_aload_0 (q := 61) dX8_nextDay_60 rfl ?_
    refine ag_getR (q := 64) dX8_nextDay_61 rfl fl8_55 (Nat.lt_of_lt_of_le (by decide : 141 < NT) hN) (congrArg Prod.fst s_141) rfl r_141_31 ?_
    refine ag_iconst (q := 65) (v := 1) dX8_nextDay_64 rfl (by decide) ?_
    refine ag_iload_1 (q := 66) dX8_nextDay_65 rfl ?_
    refine ag_iadd (q := 67) dX8_nextDay_66 rfl ?_
    refine ag_iald (q := 68) dX8_nextDay_67 rfl (Nat.lt_of_lt_of_le (by decide : 157 < NT) hN) s_157 ?_
    refine ag_bipush (q := 70) (v := 8) dX8_nextDay_68 rfl (by decide) ?_
    refine ag_icmp_ge (tgt := 77) (q := 73) dX8_nextDay_70 rfl rfl ?_ ?_
    · refine ag_iconst (q := 78) (v := 0) dX8_nextDay_77 rfl (by decide) ?_
      refine ag_iadd (q := 79) dX8_nextDay_78 rfl ?_
      refine ag_iast (q := 80) dX8_nextDay_79 rfl (Nat.lt_of_lt_of_le (by decide : 157 < NT) hN) s_157 ?_
      refine ag_iinc_1 (q := 83) (d := (1)) dX8_nextDay_80 rfl (Nat.le_of_ble_eq_true rfl) rfl (by decide) ?_
      refine ag_goto (q := 12) dX8_nextDay_83 rfl ?_
      exact ih (x1 + (1)) (up σ 157 ((1 : Int32) + x1).toNatClampNeg ((σ 157 ((1 : Int32) + x1).toNatClampNeg) + (0 : Int32)))
    refine ag_iconst (q := 74) (v := 1) dX8_nextDay_73 rfl (by decide) ?_
    refine ag_goto (q := 78) dX8_nextDay_74 rfl ?_
    refine ag_iadd (q := 79) dX8_nextDay_78 rfl ?_
    refine ag_iast (q := 80) dX8_nextDay_79 rfl (Nat.lt_of_lt_of_le (by decide : 157 < NT) hN) s_157 ?_
    refine ag_iinc_1 (q := 83) (d := (1)) dX8_nextDay_80 rfl (Nat.le_of_ble_eq_true rfl) rfl (by decide) ?_
    refine ag_goto (q := 12) dX8_nextDay_83 rfl ?_
    exact ih (x1 + (1)) (up σ 157 ((1 : Int32) + x1).toNatClampNeg ((σ 157 ((1 : Int32) + x1).toNatClampNeg) + (1 : Int32)))
def J_X8_nextDay  (σ : Sg) : Option (Unit × Sg) :=
  (J_X8_nextDay_b12   FU (0 : Int32) (up σ 157 0 ((σ 157 0) + (1 : Int32))))
set_option maxHeartbeats 4000000 in
theorem A_X8_nextDay (K : KT) {N : Nat} (hN : NT ≤ N)  (σ : Sg) : AG K mX8_nextDay N (fun a : Unit × Sg => (none, N, R0, a.2)) (J_X8_nextDay  σ) 0 [some (.ref 141), none] [] σ := by
  unfold J_X8_nextDay
  refine ag_aload_0 (q := 1) dX8_nextDay_0 rfl ?_
  refine ag_getR (q := 4) dX8_nextDay_1 rfl fl8_55 (Nat.lt_of_lt_of_le (by decide : 141 < NT) hN) (congrArg Prod.fst s_141) rfl r_141_31 ?_
  refine ag_iconst (q := 5) (v := 0) dX8_nextDay_4 rfl (by decide) ?_
  refine ag_dup2 (q := 6) dX8_nextDay_5 rfl rfl rfl ?_
  refine ag_ialdK (q := 7) (k := 0) dX8_nextDay_6 rfl (Nat.lt_of_lt_of_le (by decide : 157 < NT) hN) s_157 (by decide) (by decide) ?_
  refine ag_iconst (q := 8) (v := 1) dX8_nextDay_7 rfl (by decide) ?_
  refine ag_iadd (q := 9) dX8_nextDay_8 rfl ?_
  refine ag_iastK (q := 10) (k := 0) dX8_nextDay_9 rfl (Nat.lt_of_lt_of_le (by decide : 157 < NT) hN) s_157 (by decide) (by decide) ?_
  refine ag_iconst (q := 11) (v := 0) dX8_nextDay_10 rfl (by decide) ?_
  refine ag_istore_1 (q := 12) dX8_nextDay_11 rfl (Nat.le_of_ble_eq_true rfl) rfl ?_
  exact A_X8_nextDay_b12 K hN   FU (0 : Int32) (up σ 157 0 ((σ 157 0) + (1 : Int32)))
theorem C_X8_nextDay {N : Nat} (hN : NT ≤ N)  (σ : Sg) : ∀ r s', J_X8_nextDay  σ = some (r, s') → AMc yX8_nextDay mX8_nextDay [.ref 141] N R0 σ (none, N, R0, s') := fun r s' e => AMc.of (L := [some (.ref 141), none]) (by decide) rfl (fun _ => rfl) (fun _ => Nat.le_of_ble_eq_true rfl) (Nat.le_refl _) (fun K => A_X8_nextDay K hN  σ _ e)
def J_X8_goesBy (a1 : Int32) (σ : Sg) : Option (Unit × Sg) :=
  (if a1 = (99 : Int32) then (bd2 (J_X8_grazes  σ) fun r50 s50 => (bd2 (J_X8_nextDay  s50) fun r54 s54 => (some ((), s54)))) else (bd2 (J_X8_comesTo (a1 / (10 : Int32)) (rmI a1 (10 : Int32)) (1 : Int32) σ) fun r18 s18 => (if (s18 141 32) < 0 then (bd2 (J_X8_stands (a1 / (10 : Int32)) r18 s18) fun r46 s46 => (bd2 (J_X8_grazes  s46) fun r50 s50 => (bd2 (J_X8_nextDay  s50) fun r54 s54 => (some ((), s54))))) else (if inb ((37 : Int32) + (s18 141 32)) 54 = true then (bd2 (J_X8_stands (a1 / (10 : Int32)) r18 (up s18 157 ((37 : Int32) + (s18 141 32)).toNatClampNeg (36 : Int32))) fun r46 s46 => (bd2 (J_X8_grazes  s46) fun r50 s50 => (bd2 (J_X8_nextDay  s50) fun r54 s54 => (some ((), s54))))) else none))))
set_option maxHeartbeats 4000000 in
theorem A_X8_goesBy (K : KT) {N : Nat} (hN : NT ≤ N) (a1 : Int32) (σ : Sg) : AG K mX8_goesBy N (fun a : Unit × Sg => (none, N, R0, a.2)) (J_X8_goesBy a1 σ) 0 [some (.ref 141), some (.int a1), none, none] [] σ := by
  unfold J_X8_goesBy
  refine ag_iload_1 (q := 1) dX8_goesBy_0 rfl ?_
  refine ag_bipush (q := 3) (v := 99) dX8_goesBy_1 rfl (by decide) ?_
  refine ag_icmp_eq (tgt := 49) (q := 6) dX8_goesBy_3 rfl rfl ?_ ?_
  · refine ag_aload_0 (q := 50) dX8_goesBy_49 rfl ?_
    refine ag_callV_mU (q := 53) (av := []) (rest := []) dX8_goesBy_50 rfl lk8_216 (C_X8_grazes hN  _) (by decide) (Nat.le_of_ble_eq_true rfl) (Nat.lt_of_lt_of_le (by decide : 141 < NT) hN) (congrArg Prod.fst s_141) (by decide) (fun _ => rfl) (Nat.le_of_ble_eq_true rfl) rfl (fun r50 s50 e50 => ?_)
    refine ag_aload_0 (q := 54) dX8_goesBy_53 rfl ?_
    refine ag_callV_mU (q := 57) (av := []) (rest := []) dX8_goesBy_54 rfl lk8_219 (C_X8_nextDay hN  _) (by decide) (Nat.le_of_ble_eq_true rfl) (Nat.lt_of_lt_of_le (by decide : 141 < NT) hN) (congrArg Prod.fst s_141) (by decide) (fun _ => rfl) (Nat.le_of_ble_eq_true rfl) rfl (fun r54 s54 e54 => ?_)
    exact ag_vret dX8_goesBy_57 rfl rfl
  refine ag_iload_1 (q := 7) dX8_goesBy_6 rfl ?_
  refine ag_bipush (q := 9) (v := 10) dX8_goesBy_7 rfl (by decide) ?_
  refine ag_idivK (q := 10) dX8_goesBy_9 rfl (by decide) ?_
  refine ag_istore_2 (q := 11) dX8_goesBy_10 rfl (Nat.le_of_ble_eq_true rfl) rfl ?_
  refine ag_aload_0 (q := 12) dX8_goesBy_11 rfl ?_
  refine ag_iload_2 (q := 13) dX8_goesBy_12 rfl ?_
  refine ag_iload_1 (q := 14) dX8_goesBy_13 rfl ?_
  refine ag_bipush (q := 16) (v := 10) dX8_goesBy_14 rfl (by decide) ?_
  refine ag_iremK (q := 17) dX8_goesBy_16 rfl (by decide) ?_
  refine ag_iconst (q := 18) (v := 1) dX8_goesBy_17 rfl (by decide) ?_
  refine ag_callV_mI (q := 21) (av := [.int _, .int _, .int _]) (rest := []) dX8_goesBy_18 rfl lk8_208 (C_X8_comesTo hN (a1 / (10 : Int32)) (rmI a1 (10 : Int32)) (1 : Int32) _) (by decide) (Nat.le_of_ble_eq_true rfl) (Nat.lt_of_lt_of_le (by decide : 141 < NT) hN) (congrArg Prod.fst s_141) (by decide) (fun _ => rfl) (Nat.le_of_ble_eq_true rfl) rfl (fun r18 s18 e18 => ?_)
  refine ag_istore_3 (q := 22) dX8_goesBy_21 rfl (Nat.le_of_ble_eq_true rfl) rfl ?_
  refine ag_aload_0 (q := 23) dX8_goesBy_22 rfl ?_
  refine ag_getI (q := 26) dX8_goesBy_23 rfl fl8_198 (Nat.lt_of_lt_of_le (by decide : 141 < NT) hN) (congrArg Prod.fst s_141) rfl ?_
  refine ag_if_lt (tgt := 43) (q := 29) dX8_goesBy_26 rfl rfl ?_ ?_
  · refine ag_aload_0 (q := 44) dX8_goesBy_43 rfl ?_
    refine ag_iload_2 (q := 45) dX8_goesBy_44 rfl ?_
    refine ag_iload_3 (q := 46) dX8_goesBy_45 rfl ?_
    refine ag_callV_mU (q := 49) (av := [.int _, .int _]) (rest := []) dX8_goesBy_46 rfl lk8_212 (C_X8_stands hN (a1 / (10 : Int32)) r18 _) (by decide) (Nat.le_of_ble_eq_true rfl) (Nat.lt_of_lt_of_le (by decide : 141 < NT) hN) (congrArg Prod.fst s_141) (by decide) (fun _ => rfl) (Nat.le_of_ble_eq_true rfl) rfl (fun r46 s46 e46 => ?_)
    refine ag_aload_0 (q := 50) dX8_goesBy_49 rfl ?_
    refine ag_callV_mU (q := 53) (av := []) (rest := []) dX8_goesBy_50 rfl lk8_216 (C_X8_grazes hN  _) (by decide) (Nat.le_of_ble_eq_true rfl) (Nat.lt_of_lt_of_le (by decide : 141 < NT) hN) (congrArg Prod.fst s_141) (by decide) (fun _ => rfl) (Nat.le_of_ble_eq_true rfl) rfl (fun r50 s50 e50 => ?_)
    refine ag_aload_0 (q := 54) dX8_goesBy_53 rfl ?_
    refine ag_callV_mU (q := 57) (av := []) (rest := []) dX8_goesBy_54 rfl lk8_219 (C_X8_nextDay hN  _) (by decide) (Nat.le_of_ble_eq_true rfl) (Nat.lt_of_lt_of_le (by decide : 141 < NT) hN) (congrArg Prod.fst s_141) (by decide) (fun _ => rfl) (Nat.le_of_ble_eq_true rfl) rfl (fun r54 s54 e54 => ?_)
    exact ag_vret dX8_goesBy_57 rfl rfl
  refine ag_aload_0 (q := 30) dX8_goesBy_29 rfl ?_
  refine ag_getR (q := 33) dX8_goesBy_30 rfl fl8_55 (Nat.lt_of_lt_of_le (by decide : 141 < NT) hN) (congrArg Prod.fst s_141) rfl r_141_31 ?_
  refine ag_bipush (q := 35) (v := 37) dX8_goesBy_33 rfl (by decide) ?_
  refine ag_aload_0 (q := 36) dX8_goesBy_35 rfl ?_
  refine ag_getI (q := 39) dX8_goesBy_36 rfl fl8_198 (Nat.lt_of_lt_of_le (by decide : 141 < NT) hN) (congrArg Prod.fst s_141) rfl ?_
  refine ag_iadd (q := 40) dX8_goesBy_39 rfl ?_
  refine ag_bipush (q := 42) (v := 36) dX8_goesBy_40 rfl (by decide) ?_
  refine ag_iast (q := 43) dX8_goesBy_42 rfl (Nat.lt_of_lt_of_le (by decide : 157 < NT) hN) s_157 ?_
  refine ag_aload_0 (q := 44) dX8_goesBy_43 rfl ?_
  refine ag_iload_2 (q := 45) dX8_goesBy_44 rfl ?_
  refine ag_iload_3 (q := 46) dX8_goesBy_45 rfl ?_
  refine ag_callV_mU (q := 49) (av := [.int _, .int _]) (rest := []) dX8_goesBy_46 rfl lk8_212 (C_X8_stands hN (a1 / (10 : Int32)) r18 _) (by decide) (Nat.le_of_ble_eq_true rfl) (Nat.lt_of_lt_of_le (by decide : 141 < NT) hN) (congrArg Prod.fst s_141) (by decide) (fun _ => rfl) (Nat.le_of_ble_eq_true rfl) rfl (fun r46 s46 e46 => ?_)
  refine ag_aload_0 (q := 50) dX8_goesBy_49 rfl ?_
  refine ag_callV_mU (q := 53) (av := []) (rest := []) dX8_goesBy_50 rfl lk8_216 (C_X8_grazes hN  _) (by decide) (Nat.le_of_ble_eq_true rfl) (Nat.lt_of_lt_of_le (by decide : 141 < NT) hN) (congrArg Prod.fst s_141) (by decide) (fun _ => rfl) (Nat.le_of_ble_eq_true rfl) rfl (fun r50 s50 e50 => ?_)
  refine ag_aload_0 (q := 54) dX8_goesBy_53 rfl ?_
  refine ag_callV_mU (q := 57) (av := []) (rest := []) dX8_goesBy_54 rfl lk8_219 (C_X8_nextDay hN  _) (by decide) (Nat.le_of_ble_eq_true rfl) (Nat.lt_of_lt_of_le (by decide : 141 < NT) hN) (congrArg Prod.fst s_141) (by decide) (fun _ => rfl) (Nat.le_of_ble_eq_true rfl) rfl (fun r54 s54 e54 => ?_)
  exact ag_vret dX8_goesBy_57 rfl rfl
theorem C_X8_goesBy {N : Nat} (hN : NT ≤ N) (a1 : Int32) (σ : Sg) : ∀ r s', J_X8_goesBy a1 σ = some (r, s') → AMc yX8_goesBy mX8_goesBy [.ref 141, .int a1] N R0 σ (none, N, R0, s') := fun r s' e => AMc.of (L := [some (.ref 141), some (.int a1), none, none]) (by decide) rfl (fun _ => rfl) (fun _ => Nat.le_of_ble_eq_true rfl) (Nat.le_refl _) (fun K => A_X8_goesBy K hN a1 σ _ e)
def J_X8_lost_b37  (y6 : Int32 → Int32 → Int32 → Sg → Option Int32) (x2 : Int32) (x3 : Int32) (w0 : Int32) (w1 : Int32) (σ : Sg) : Option Int32 :=
  (if inb x3 8 = true then (if (σ 143 x3.toNatClampNeg) = (3 : Int32) then (if inb ((37 : Int32) + x3) 54 = true then (if (σ 157 ((37 : Int32) + x3).toNatClampNeg) = (36 : Int32) then (y6 (w1 ||| w0) (x2 ||| (0 : Int32)) (x3 + (1)) σ) else (if inb x3 8 = true then (y6 (w1 ||| w0) (x2 ||| ((1 : Int32) <<< ((σ 144 x3.toNatClampNeg) &&& 31))) (x3 + (1)) σ) else none)) else none) else (y6 (w1 ||| w0) (x2 ||| (0 : Int32)) (x3 + (1)) σ)) else none)
set_option maxHeartbeats 4000000 in
theorem A_X8_lost_b37 (K : KT) {N : Nat} (hN : NT ≤ N)  (y6 : Int32 → Int32 → Int32 → Sg → Option Int32) (hy6 : ∀ (x1 : Int32) (x2 : Int32) (x3 : Int32) (σ : Sg), AG K mX8_lost N (fun a : Int32 => (some (.int a), N, R0, σ)) (y6 x1 x2 x3 σ) 6 [some (.ref 141), some (.int x1), some (.int x2), some (.int x3)] [] σ) (x2 : Int32) (x3 : Int32) (w0 : Int32) (w1 : Int32) (σ : Sg) : AG K mX8_lost N (fun a : Int32 => (some (.int a), N, R0, σ)) (J_X8_lost_b37  y6 x2 x3 w0 w1 σ) 37 [some (.ref 141), none, some (.int x2), some (.int x3)] [.int w0, .int w1] σ := by
  unfold J_X8_lost_b37
  refine ag_ior (q := 38) dX8_lost_37 rfl ?_
  refine ag_istore_1 (q := 39) dX8_lost_38 rfl (Nat.le_of_ble_eq_true rfl) rfl ?_
  refine ag_iload_2 (q := 40) dX8_lost_39 rfl ?_
  refine ag_aload_0 (q := 41) dX8_lost_40 rfl ?_
  refine ag_getR (q := 44) dX8_lost_41 rfl fl8_13 (Nat.lt_of_lt_of_le (by decide : 141 < NT) hN) (congrArg Prod.fst s_141) rfl r_141_4 ?_
  refine ag_iload_3 (q := 45) dX8_lost_44 rfl ?_
  refine ag_iald (q := 46) dX8_lost_45 rfl (Nat.lt_of_lt_of_le (by decide : 143 < NT) hN) s_143 ?_
  refine ag_iconst (q := 47) (v := 3) dX8_lost_46 rfl (by decide) ?_
  refine ag_icmp_ne (tgt := 75) (q := 50) dX8_lost_47 rfl rfl ?_ ?_
  · refine ag_iconst (q := 76) (v := 0) dX8_lost_75 rfl (by decide) ?_
    refine ag_ior (q := 77) dX8_lost_76 rfl ?_
    refine ag_istore_2 (q := 78) dX8_lost_77 rfl (Nat.le_of_ble_eq_true rfl) rfl ?_
    refine ag_iinc_3 (q := 81) (d := (1)) dX8_lost_78 rfl (Nat.le_of_ble_eq_true rfl) rfl (by decide) ?_
    refine ag_goto (q := 6) dX8_lost_81 rfl ?_
    exact hy6 (w1 ||| w0) (x2 ||| (0 : Int32)) (x3 + (1)) σ
  refine ag_aload_0 (q := 51) dX8_lost_50 rfl ?_
  refine ag_getR (q := 54) dX8_lost_51 rfl fl8_55 (Nat.lt_of_lt_of_le (by decide : 141 < NT) hN) (congrArg Prod.fst s_141) rfl r_141_31 ?_
  refine ag_bipush (q := 56) (v := 37) dX8_lost_54 rfl (by decide) ?_
  refine ag_iload_3 (q := 57) dX8_lost_56 rfl ?_
  refine ag_iadd (q := 58) dX8_lost_57 rfl ?_
  refine ag_iald (q := 59) dX8_lost_58 rfl (Nat.lt_of_lt_of_le (by decide : 157 < NT) hN) s_157 ?_
  refine ag_bipush (q := 61) (v := 36) dX8_lost_59 rfl (by decide) ?_
  refine ag_icmp_eq (tgt := 75) (q := 64) dX8_lost_61 rfl rfl ?_ ?_
  · refine ag_iconst (q := 76) (v := 0) dX8_lost_75 rfl (by decide) ?_
    refine ag_ior (q := 77) dX8_lost_76 rfl ?_
    refine ag_istore_2 (q := 78) dX8_lost_77 rfl (Nat.le_of_ble_eq_true rfl) rfl ?_
    refine ag_iinc_3 (q := 81) (d := (1)) dX8_lost_78 rfl (Nat.le_of_ble_eq_true rfl) rfl (by decide) ?_
    refine ag_goto (q := 6) dX8_lost_81 rfl ?_
    exact hy6 (w1 ||| w0) (x2 ||| (0 : Int32)) (x3 + (1)) σ
  refine ag_iconst (q := 65) (v := 1) dX8_lost_64 rfl (by decide) ?_
  refine ag_aload_0 (q := 66) dX8_lost_65 rfl ?_
  refine ag_getR (q := 69) dX8_lost_66 rfl fl8_16 (Nat.lt_of_lt_of_le (by decide : 141 < NT) hN) (congrArg Prod.fst s_141) rfl r_141_5 ?_
  refine ag_iload_3 (q := 70) dX8_lost_69 rfl ?_
  refine ag_iald (q := 71) dX8_lost_70 rfl (Nat.lt_of_lt_of_le (by decide : 144 < NT) hN) s_144 ?_
  refine ag_ishl (q := 72) dX8_lost_71 rfl ?_
  refine ag_goto (q := 76) dX8_lost_72 rfl ?_
  refine ag_ior (q := 77) dX8_lost_76 rfl ?_
  refine ag_istore_2 (q := 78) dX8_lost_77 rfl (Nat.le_of_ble_eq_true rfl) rfl ?_
  refine ag_iinc_3 (q := 81) (d := (1)) dX8_lost_78 rfl (Nat.le_of_ble_eq_true rfl) rfl (by decide) ?_
  refine ag_goto (q := 6) dX8_lost_81 rfl ?_
  exact hy6 (w1 ||| w0) (x2 ||| ((1 : Int32) <<< ((σ 144 x3.toNatClampNeg) &&& 31))) (x3 + (1)) σ
def J_X8_lost_b6  : Nat → Int32 → Int32 → Int32 → Sg → Option Int32
  | 0, _, _, _, _ => none
  | k + 1, x1, x2, x3, σ =>
    (if (σ 141 3) ≤ x3 then (some (x1 &&& (x2 ^^^ (-1 : Int32)))) else (if inb x3 8 = true then (if (σ 143 x3.toNatClampNeg) = (3 : Int32) then (if inb x3 8 = true then (J_X8_lost_b37  (fun x1 x2 x3 σ => J_X8_lost_b6   k x1 x2 x3 σ) x2 x3 ((1 : Int32) <<< ((σ 144 x3.toNatClampNeg) &&& 31)) x1 σ) else none) else (J_X8_lost_b37  (fun x1 x2 x3 σ => J_X8_lost_b6   k x1 x2 x3 σ) x2 x3 (0 : Int32) x1 σ)) else none))
set_option maxHeartbeats 4000000 in
theorem A_X8_lost_b6 (K : KT) {N : Nat} (hN : NT ≤ N)  : ∀ (k : Nat) (x1 : Int32) (x2 : Int32) (x3 : Int32) (σ : Sg), AG K mX8_lost N (fun a : Int32 => (some (.int a), N, R0, σ)) (J_X8_lost_b6   k x1 x2 x3 σ) 6 [some (.ref 141), some (.int x1), some (.int x2), some (.int x3)] [] σ := by
  intro k
  induction k with
  | zero => intro x1 x2 x3 σ; exact ag_none
  | succ k ih =>
    intro x1 x2 x3 σ
    rw [J_X8_lost_b6]
    refine ag_iload_3 (q := 7) dX8_lost_6 rfl ?_
    refine ag_aload_0 (q := 8) dX8_lost_7 rfl ?_
    refine ag_getI (q := 11) dX8_lost_8 rfl fl8_112 (Nat.lt_of_lt_of_le (by decide : 141 < NT) hN) (congrArg Prod.fst s_141) rfl ?_
    refine ag_icmp_ge (tgt := 84) (q := 14) dX8_lost_11 rfl rfl ?_ ?_
    · refine ag_iload_1 (q := 85) dX8_lost_84 rfl ?_
      refine ag_iload_2 (q := 86) dX8_lost_85 rfl ?_
      refine ag_iconst (q := 87) (v := -1) dX8_lost_86 rfl (by decide) ?_
      refine ag_ixor (q := 88) dX8_lost_87 rfl ?_
      refine ag_iand (q := 89) dX8_lost_88 rfl ?_
      exact ag_iret dX8_lost_89 rfl rfl
    refine ag_iload_1 (q := 15) dX8_lost_14 rfl ?_
    refine ag_aload_0 (q := 16) dX8_lost_15 rfl ?_
    refine ag_getR (q := 19) dX8_lost_16 rfl fl8_13 (Nat.lt_of_lt_of_le (by decide : 141 < NT) hN) (congrArg Prod.fst s_141) rfl r_141_4 ?_
    refine ag_iload_3 (q := 20) dX8_lost_19 rfl ?_
    refine ag_iald (q := 21) dX8_lost_20 rfl (Nat.lt_of_lt_of_le (by decide : 143 < NT) hN) s_143 ?_
    refine ag_iconst (q := 22) (v := 3) dX8_lost_21 rfl (by decide) ?_
    refine ag_icmp_ne (tgt := 36) (q := 25) dX8_lost_22 rfl rfl ?_ ?_
    · refine ag_iconst (q := 37) (v := 0) dX8_lost_36 rfl (by decide) ?_
      refine ag_kill_1 ?_
      exact A_X8_lost_b37 K hN  (fun x1 x2 x3 σ => J_X8_lost_b6   k x1 x2 x3 σ) (fun x1 x2 x3 σ => ih x1 x2 x3 σ) x2 x3 (0 : Int32) x1 σ
    refine ag_iconst (q := 26) (v := 1) dX8_lost_25 rfl (by decide) ?_
    refine ag_aload_0 (q := 27) dX8_lost_26 rfl ?_
    refine ag_getR (q := 30) dX8_lost_27 rfl fl8_16 (Nat.lt_of_lt_of_le (by decide : 141 < NT) hN) (congrArg Prod.fst s_141) rfl r_141_5 ?_
    refine ag_iload_3 (q := 31) dX8_lost_30 rfl ?_
    refine ag_iald (q := 32) dX8_lost_31 rfl (Nat.lt_of_lt_of_le (by decide : 144 < NT) hN) s_144 ?_
    refine ag_ishl (q := 33) dX8_lost_32 rfl ?_
    refine ag_goto (q := 37) dX8_lost_33 rfl ?_
    refine ag_kill_1 ?_
    exact A_X8_lost_b37 K hN  (fun x1 x2 x3 σ => J_X8_lost_b6   k x1 x2 x3 σ) (fun x1 x2 x3 σ => ih x1 x2 x3 σ) x2 x3 ((1 : Int32) <<< ((σ 144 x3.toNatClampNeg) &&& 31)) x1 σ
def J_X8_lost  (σ : Sg) : Option Int32 :=
  (J_X8_lost_b6   FU (0 : Int32) (0 : Int32) (0 : Int32) σ)
set_option maxHeartbeats 4000000 in
theorem A_X8_lost (K : KT) {N : Nat} (hN : NT ≤ N)  (σ : Sg) : AG K mX8_lost N (fun a : Int32 => (some (.int a), N, R0, σ)) (J_X8_lost  σ) 0 [some (.ref 141), none, none, none] [] σ := by
  unfold J_X8_lost
  refine ag_iconst (q := 1) (v := 0) dX8_lost_0 rfl (by decide) ?_
  refine ag_istore_1 (q := 2) dX8_lost_1 rfl (Nat.le_of_ble_eq_true rfl) rfl ?_
  refine ag_iconst (q := 3) (v := 0) dX8_lost_2 rfl (by decide) ?_
  refine ag_istore_2 (q := 4) dX8_lost_3 rfl (Nat.le_of_ble_eq_true rfl) rfl ?_
  refine ag_iconst (q := 5) (v := 0) dX8_lost_4 rfl (by decide) ?_
  refine ag_istore_3 (q := 6) dX8_lost_5 rfl (Nat.le_of_ble_eq_true rfl) rfl ?_
  exact A_X8_lost_b6 K hN   FU (0 : Int32) (0 : Int32) (0 : Int32) σ
theorem C_X8_lost {N : Nat} (hN : NT ≤ N)  (σ : Sg) : ∀ r, J_X8_lost  σ = some r → AMc yX8_lost mX8_lost [.ref 141] N R0 σ (some (.int r), N, R0, σ) := fun r e => AMc.of (L := [some (.ref 141), none, none, none]) (by decide) rfl (fun _ => rfl) (fun _ => Nat.le_of_ble_eq_true rfl) (Nat.le_refl _) (fun K => A_X8_lost K hN  σ _ e)
def J_X8_canDrive (a1 : Int32) (σ : Sg) : Option (Int32 × Sg) :=
  (if (σ 141 3) ≤ (a1 / (10 : Int32)) then (some ((0 : Int32), σ)) else (if (4 : Int32) ≤ (rmI a1 (10 : Int32)) then (some ((0 : Int32), σ)) else (if inb ((37 : Int32) + (a1 / (10 : Int32))) 54 = true then (if (σ 157 ((37 : Int32) + (a1 / (10 : Int32))).toNatClampNeg) = (36 : Int32) then (some ((0 : Int32), σ)) else (if inb (a1 / (10 : Int32)) 8 = true then (if (σ 144 (a1 / (10 : Int32)).toNatClampNeg) = (rmI (σ 157 0) (2 : Int32)) then (bd1 (J_X8_lost  σ) fun r53 => (if r53 = 0 then (bd2 (J_X8_comesTo (a1 / (10 : Int32)) (rmI a1 (10 : Int32)) (1 : Int32) σ) fun r66 s66 => (if r66 < 0 then (some ((0 : Int32), s66)) else (some ((1 : Int32), s66)))) else (some ((0 : Int32), σ)))) else (some ((0 : Int32), σ))) else none)) else none)))
set_option maxHeartbeats 4000000 in
theorem A_X8_canDrive (K : KT) {N : Nat} (hN : NT ≤ N) (a1 : Int32) (σ : Sg) : AG K mX8_canDrive N (fun a : Int32 × Sg => (some (.int a.1), N, R0, a.2)) (J_X8_canDrive a1 σ) 0 [some (.ref 141), some (.int a1), none] [] σ := by
  unfold J_X8_canDrive
  refine ag_iload_1 (q := 1) dX8_canDrive_0 rfl ?_
  refine ag_bipush (q := 3) (v := 10) dX8_canDrive_1 rfl (by decide) ?_
  refine ag_idivK (q := 4) dX8_canDrive_3 rfl (by decide) ?_
  refine ag_istore_2 (q := 5) dX8_canDrive_4 rfl (Nat.le_of_ble_eq_true rfl) rfl ?_
  refine ag_iload_2 (q := 6) dX8_canDrive_5 rfl ?_
  refine ag_aload_0 (q := 7) dX8_canDrive_6 rfl ?_
  refine ag_getI (q := 10) dX8_canDrive_7 rfl fl8_112 (Nat.lt_of_lt_of_le (by decide : 141 < NT) hN) (congrArg Prod.fst s_141) rfl ?_
  refine ag_icmp_ge (tgt := 76) (q := 13) dX8_canDrive_10 rfl rfl ?_ ?_
  · refine ag_iconst (q := 77) (v := 0) dX8_canDrive_76 rfl (by decide) ?_
    exact ag_zretK dX8_canDrive_77 rfl (by decide) rfl
  refine ag_iload_1 (q := 14) dX8_canDrive_13 rfl ?_
  refine ag_bipush (q := 16) (v := 10) dX8_canDrive_14 rfl (by decide) ?_
  refine ag_iremK (q := 17) dX8_canDrive_16 rfl (by decide) ?_
  refine ag_iconst (q := 18) (v := 4) dX8_canDrive_17 rfl (by decide) ?_
  refine ag_icmp_ge (tgt := 76) (q := 21) dX8_canDrive_18 rfl rfl ?_ ?_
  · refine ag_iconst (q := 77) (v := 0) dX8_canDrive_76 rfl (by decide) ?_
    exact ag_zretK dX8_canDrive_77 rfl (by decide) rfl
  refine ag_aload_0 (q := 22) dX8_canDrive_21 rfl ?_
  refine ag_getR (q := 25) dX8_canDrive_22 rfl fl8_55 (Nat.lt_of_lt_of_le (by decide : 141 < NT) hN) (congrArg Prod.fst s_141) rfl r_141_31 ?_
  refine ag_bipush (q := 27) (v := 37) dX8_canDrive_25 rfl (by decide) ?_
  refine ag_iload_2 (q := 28) dX8_canDrive_27 rfl ?_
  refine ag_iadd (q := 29) dX8_canDrive_28 rfl ?_
  refine ag_iald (q := 30) dX8_canDrive_29 rfl (Nat.lt_of_lt_of_le (by decide : 157 < NT) hN) s_157 ?_
  refine ag_bipush (q := 32) (v := 36) dX8_canDrive_30 rfl (by decide) ?_
  refine ag_icmp_eq (tgt := 76) (q := 35) dX8_canDrive_32 rfl rfl ?_ ?_
  · refine ag_iconst (q := 77) (v := 0) dX8_canDrive_76 rfl (by decide) ?_
    exact ag_zretK dX8_canDrive_77 rfl (by decide) rfl
  refine ag_aload_0 (q := 36) dX8_canDrive_35 rfl ?_
  refine ag_getR (q := 39) dX8_canDrive_36 rfl fl8_16 (Nat.lt_of_lt_of_le (by decide : 141 < NT) hN) (congrArg Prod.fst s_141) rfl r_141_5 ?_
  refine ag_iload_2 (q := 40) dX8_canDrive_39 rfl ?_
  refine ag_iald (q := 41) dX8_canDrive_40 rfl (Nat.lt_of_lt_of_le (by decide : 144 < NT) hN) s_144 ?_
  refine ag_aload_0 (q := 42) dX8_canDrive_41 rfl ?_
  refine ag_getR (q := 45) dX8_canDrive_42 rfl fl8_55 (Nat.lt_of_lt_of_le (by decide : 141 < NT) hN) (congrArg Prod.fst s_141) rfl r_141_31 ?_
  refine ag_iconst (q := 46) (v := 0) dX8_canDrive_45 rfl (by decide) ?_
  refine ag_ialdK (q := 47) (k := 0) dX8_canDrive_46 rfl (Nat.lt_of_lt_of_le (by decide : 157 < NT) hN) s_157 (by decide) (by decide) ?_
  refine ag_iconst (q := 48) (v := 2) dX8_canDrive_47 rfl (by decide) ?_
  refine ag_iremK (q := 49) dX8_canDrive_48 rfl (by decide) ?_
  refine ag_icmp_ne (tgt := 76) (q := 52) dX8_canDrive_49 rfl rfl ?_ ?_
  · refine ag_iconst (q := 77) (v := 0) dX8_canDrive_76 rfl (by decide) ?_
    exact ag_zretK dX8_canDrive_77 rfl (by decide) rfl
  refine ag_aload_0 (q := 53) dX8_canDrive_52 rfl ?_
  refine ag_callV_pI (q := 56) (av := []) (rest := []) dX8_canDrive_53 rfl lk8_222 (C_X8_lost hN  _) (by decide) (Nat.le_of_ble_eq_true rfl) (Nat.lt_of_lt_of_le (by decide : 141 < NT) hN) (congrArg Prod.fst s_141) (by decide) (fun _ => rfl) (Nat.le_of_ble_eq_true rfl) rfl (fun r53 e53 => ?_)
  refine ag_if_ne (tgt := 76) (q := 59) dX8_canDrive_56 rfl rfl ?_ ?_
  · refine ag_iconst (q := 77) (v := 0) dX8_canDrive_76 rfl (by decide) ?_
    exact ag_zretK dX8_canDrive_77 rfl (by decide) rfl
  refine ag_aload_0 (q := 60) dX8_canDrive_59 rfl ?_
  refine ag_iload_2 (q := 61) dX8_canDrive_60 rfl ?_
  refine ag_iload_1 (q := 62) dX8_canDrive_61 rfl ?_
  refine ag_bipush (q := 64) (v := 10) dX8_canDrive_62 rfl (by decide) ?_
  refine ag_iremK (q := 65) dX8_canDrive_64 rfl (by decide) ?_
  refine ag_iconst (q := 66) (v := 1) dX8_canDrive_65 rfl (by decide) ?_
  refine ag_callV_mI (q := 69) (av := [.int _, .int _, .int _]) (rest := []) dX8_canDrive_66 rfl lk8_208 (C_X8_comesTo hN (a1 / (10 : Int32)) (rmI a1 (10 : Int32)) (1 : Int32) _) (by decide) (Nat.le_of_ble_eq_true rfl) (Nat.lt_of_lt_of_le (by decide : 141 < NT) hN) (congrArg Prod.fst s_141) (by decide) (fun _ => rfl) (Nat.le_of_ble_eq_true rfl) rfl (fun r66 s66 e66 => ?_)
  refine ag_if_lt (tgt := 76) (q := 72) dX8_canDrive_69 rfl rfl ?_ ?_
  · refine ag_iconst (q := 77) (v := 0) dX8_canDrive_76 rfl (by decide) ?_
    exact ag_zretK dX8_canDrive_77 rfl (by decide) rfl
  refine ag_iconst (q := 73) (v := 1) dX8_canDrive_72 rfl (by decide) ?_
  refine ag_goto (q := 77) dX8_canDrive_73 rfl ?_
  exact ag_zretK dX8_canDrive_77 rfl (by decide) rfl
theorem C_X8_canDrive {N : Nat} (hN : NT ≤ N) (a1 : Int32) (σ : Sg) : ∀ r s', J_X8_canDrive a1 σ = some (r, s') → AMc yX8_canDrive mX8_canDrive [.ref 141, .int a1] N R0 σ (some (.int r), N, R0, s') := fun r s' e => AMc.of (L := [some (.ref 141), some (.int a1), none]) (by decide) rfl (fun _ => rfl) (fun _ => Nat.le_of_ble_eq_true rfl) (Nat.le_refl _) (fun K => A_X8_canDrive K hN a1 σ _ e)
def J_X8_worth_b46  (y4 : Int32 → Int32 → Sg → Option Int32) (x1 : Int32) (x2 : Int32) (w0 : Int32) (σ : Sg) : Option Int32 :=
  (if inb ((37 : Int32) + x2) 54 = true then (if (σ 157 ((37 : Int32) + x2).toNatClampNeg) = (36 : Int32) then (y4 (x1 + (0 : Int32)) (x2 + (1)) σ) else (if inb x2 8 = true then (if (σ 144 x2.toNatClampNeg) = 0 then (y4 (x1 + w0) (x2 + (1)) σ) else (y4 (x1 + (-w0)) (x2 + (1)) σ)) else none)) else none)
set_option maxHeartbeats 4000000 in
theorem A_X8_worth_b46 (K : KT) {N : Nat} (hN : NT ≤ N)  (y4 : Int32 → Int32 → Sg → Option Int32) (hy4 : ∀ (x1 : Int32) (x2 : Int32) (σ : Sg), AG K mX8_worth N (fun a : Int32 => (some (.int a), N, R0, σ)) (y4 x1 x2 σ) 4 [some (.ref 141), some (.int x1), some (.int x2), none, none] [] σ) (x1 : Int32) (x2 : Int32) (w0 : Int32) (σ : Sg) : AG K mX8_worth N (fun a : Int32 => (some (.int a), N, R0, σ)) (J_X8_worth_b46  y4 x1 x2 w0 σ) 46 [some (.ref 141), some (.int x1), some (.int x2), none, none] [.int w0] σ := by
  unfold J_X8_worth_b46
  refine ag_istore_4 (q := 48) dX8_worth_46 rfl (Nat.le_of_ble_eq_true rfl) rfl ?_
  refine ag_iload_1 (q := 49) dX8_worth_48 rfl ?_
  refine ag_aload_0 (q := 50) dX8_worth_49 rfl ?_
  refine ag_getR (q := 53) dX8_worth_50 rfl fl8_55 (Nat.lt_of_lt_of_le (by decide : 141 < NT) hN) (congrArg Prod.fst s_141) rfl r_141_31 ?_
  refine ag_bipush (q := 55) (v := 37) dX8_worth_53 rfl (by decide) ?_
  refine ag_iload_2 (q := 56) dX8_worth_55 rfl ?_
  refine ag_iadd (q := 57) dX8_worth_56 rfl ?_
  refine ag_iald (q := 58) dX8_worth_57 rfl (Nat.lt_of_lt_of_le (by decide : 157 < NT) hN) s_157 ?_
  refine ag_bipush (q := 60) (v := 36) dX8_worth_58 rfl (by decide) ?_
  refine ag_icmp_ne (tgt := 67) (q := 63) dX8_worth_60 rfl rfl ?_ ?_
  · refine ag_aload_0 (q := 68) dX8_worth_67 rfl ?_
    refine ag_getR (q := 71) dX8_worth_68 rfl fl8_16 (Nat.lt_of_lt_of_le (by decide : 141 < NT) hN) (congrArg Prod.fst s_141) rfl r_141_5 ?_
    refine ag_iload_2 (q := 72) dX8_worth_71 rfl ?_
    refine ag_iald (q := 73) dX8_worth_72 rfl (Nat.lt_of_lt_of_le (by decide : 144 < NT) hN) s_144 ?_
    refine ag_if_ne (tgt := 81) (q := 76) dX8_worth_73 rfl rfl ?_ ?_
    · refine ag_iload_4 (q := 83) dX8_worth_81 rfl ?_
      refine ag_ineg (q := 84) dX8_worth_83 rfl ?_
      refine ag_iadd (q := 85) dX8_worth_84 rfl ?_
      refine ag_istore_1 (q := 86) dX8_worth_85 rfl (Nat.le_of_ble_eq_true rfl) rfl ?_
      refine ag_iinc_2 (q := 89) (d := (1)) dX8_worth_86 rfl (Nat.le_of_ble_eq_true rfl) rfl (by decide) ?_
      refine ag_goto (q := 4) dX8_worth_89 rfl ?_
      refine ag_kill_4 ?_
      exact hy4 (x1 + (-w0)) (x2 + (1)) σ
    refine ag_iload_4 (q := 78) dX8_worth_76 rfl ?_
    refine ag_goto (q := 84) dX8_worth_78 rfl ?_
    refine ag_iadd (q := 85) dX8_worth_84 rfl ?_
    refine ag_istore_1 (q := 86) dX8_worth_85 rfl (Nat.le_of_ble_eq_true rfl) rfl ?_
    refine ag_iinc_2 (q := 89) (d := (1)) dX8_worth_86 rfl (Nat.le_of_ble_eq_true rfl) rfl (by decide) ?_
    refine ag_goto (q := 4) dX8_worth_89 rfl ?_
    refine ag_kill_4 ?_
    exact hy4 (x1 + w0) (x2 + (1)) σ
  refine ag_iconst (q := 64) (v := 0) dX8_worth_63 rfl (by decide) ?_
  refine ag_goto (q := 84) dX8_worth_64 rfl ?_
  refine ag_iadd (q := 85) dX8_worth_84 rfl ?_
  refine ag_istore_1 (q := 86) dX8_worth_85 rfl (Nat.le_of_ble_eq_true rfl) rfl ?_
  refine ag_iinc_2 (q := 89) (d := (1)) dX8_worth_86 rfl (Nat.le_of_ble_eq_true rfl) rfl (by decide) ?_
  refine ag_goto (q := 4) dX8_worth_89 rfl ?_
  refine ag_kill_4 ?_
  exact hy4 (x1 + (0 : Int32)) (x2 + (1)) σ
def J_X8_worth_b4  : Nat → Int32 → Int32 → Sg → Option Int32
  | 0, _, _, _ => none
  | k + 1, x1, x2, σ =>
    (if (σ 141 3) ≤ x2 then (some x1) else (bd1 (J_X8_kindOf x2 σ) fun r14 => (if r14 = 0 then (J_X8_worth_b46  (fun x1 x2 σ => J_X8_worth_b4   k x1 x2 σ) x1 x2 (5 : Int32) σ) else (if r14 = (1 : Int32) then (J_X8_worth_b46  (fun x1 x2 σ => J_X8_worth_b4   k x1 x2 σ) x1 x2 (3 : Int32) σ) else (if r14 = (2 : Int32) then (J_X8_worth_b46  (fun x1 x2 σ => J_X8_worth_b4   k x1 x2 σ) x1 x2 (1 : Int32) σ) else (J_X8_worth_b46  (fun x1 x2 σ => J_X8_worth_b4   k x1 x2 σ) x1 x2 (20 : Int32) σ))))))
set_option maxHeartbeats 4000000 in
theorem A_X8_worth_b4 (K : KT) {N : Nat} (hN : NT ≤ N)  : ∀ (k : Nat) (x1 : Int32) (x2 : Int32) (σ : Sg), AG K mX8_worth N (fun a : Int32 => (some (.int a), N, R0, σ)) (J_X8_worth_b4   k x1 x2 σ) 4 [some (.ref 141), some (.int x1), some (.int x2), none, none] [] σ := by
  intro k
  induction k with
  | zero => intro x1 x2 σ; exact ag_none
  | succ k ih =>
    intro x1 x2 σ
    rw [J_X8_worth_b4]
    refine ag_iload_2 (q := 5) dX8_worth_4 rfl ?_
    refine ag_aload_0 (q := 6) dX8_worth_5 rfl ?_
    refine ag_getI (q := 9) dX8_worth_6 rfl fl8_112 (Nat.lt_of_lt_of_le (by decide : 141 < NT) hN) (congrArg Prod.fst s_141) rfl ?_
    refine ag_icmp_ge (tgt := 92) (q := 12) dX8_worth_9 rfl rfl ?_ ?_
    · refine ag_iload_1 (q := 93) dX8_worth_92 rfl ?_
      exact ag_iret dX8_worth_93 rfl rfl
    refine ag_aload_0 (q := 13) dX8_worth_12 rfl ?_
    refine ag_iload_2 (q := 14) dX8_worth_13 rfl ?_
    refine ag_callV_pI (q := 17) (av := [.int _]) (rest := []) dX8_worth_14 rfl lk8_192 (C_X8_kindOf hN x2 _) (by decide) (Nat.le_of_ble_eq_true rfl) (Nat.lt_of_lt_of_le (by decide : 141 < NT) hN) (congrArg Prod.fst s_141) (by decide) (fun _ => rfl) (Nat.le_of_ble_eq_true rfl) rfl (fun r14 e14 => ?_)
    refine ag_istore_3 (q := 18) dX8_worth_17 rfl (Nat.le_of_ble_eq_true rfl) rfl ?_
    refine ag_iload_3 (q := 19) dX8_worth_18 rfl ?_
    refine ag_if_ne (tgt := 26) (q := 22) dX8_worth_19 rfl rfl ?_ ?_
    · refine ag_iload_3 (q := 27) dX8_worth_26 rfl ?_
      refine ag_iconst (q := 28) (v := 1) dX8_worth_27 rfl (by decide) ?_
      refine ag_icmp_ne (tgt := 35) (q := 31) dX8_worth_28 rfl rfl ?_ ?_
      · refine ag_iload_3 (q := 36) dX8_worth_35 rfl ?_
        refine ag_iconst (q := 37) (v := 2) dX8_worth_36 rfl (by decide) ?_
        refine ag_icmp_ne (tgt := 44) (q := 40) dX8_worth_37 rfl rfl ?_ ?_
        · refine ag_bipush (q := 46) (v := 20) dX8_worth_44 rfl (by decide) ?_
          refine ag_kill_3 ?_
          exact A_X8_worth_b46 K hN  (fun x1 x2 σ => J_X8_worth_b4   k x1 x2 σ) (fun x1 x2 σ => ih x1 x2 σ) x1 x2 (20 : Int32) σ
        refine ag_iconst (q := 41) (v := 1) dX8_worth_40 rfl (by decide) ?_
        refine ag_goto (q := 46) dX8_worth_41 rfl ?_
        refine ag_kill_3 ?_
        exact A_X8_worth_b46 K hN  (fun x1 x2 σ => J_X8_worth_b4   k x1 x2 σ) (fun x1 x2 σ => ih x1 x2 σ) x1 x2 (1 : Int32) σ
      refine ag_iconst (q := 32) (v := 3) dX8_worth_31 rfl (by decide) ?_
      refine ag_goto (q := 46) dX8_worth_32 rfl ?_
      refine ag_kill_3 ?_
      exact A_X8_worth_b46 K hN  (fun x1 x2 σ => J_X8_worth_b4   k x1 x2 σ) (fun x1 x2 σ => ih x1 x2 σ) x1 x2 (3 : Int32) σ
    refine ag_iconst (q := 23) (v := 5) dX8_worth_22 rfl (by decide) ?_
    refine ag_goto (q := 46) dX8_worth_23 rfl ?_
    refine ag_kill_3 ?_
    exact A_X8_worth_b46 K hN  (fun x1 x2 σ => J_X8_worth_b4   k x1 x2 σ) (fun x1 x2 σ => ih x1 x2 σ) x1 x2 (5 : Int32) σ
def J_X8_worth  (σ : Sg) : Option Int32 :=
  (J_X8_worth_b4   FU (0 : Int32) (0 : Int32) σ)
set_option maxHeartbeats 4000000 in
theorem A_X8_worth (K : KT) {N : Nat} (hN : NT ≤ N)  (σ : Sg) : AG K mX8_worth N (fun a : Int32 => (some (.int a), N, R0, σ)) (J_X8_worth  σ) 0 [some (.ref 141), none, none, none, none] [] σ := by
  unfold J_X8_worth
  refine ag_iconst (q := 1) (v := 0) dX8_worth_0 rfl (by decide) ?_
  refine ag_istore_1 (q := 2) dX8_worth_1 rfl (Nat.le_of_ble_eq_true rfl) rfl ?_
  refine ag_iconst (q := 3) (v := 0) dX8_worth_2 rfl (by decide) ?_
  refine ag_istore_2 (q := 4) dX8_worth_3 rfl (Nat.le_of_ble_eq_true rfl) rfl ?_
  exact A_X8_worth_b4 K hN   FU (0 : Int32) (0 : Int32) σ
theorem C_X8_worth {N : Nat} (hN : NT ≤ N)  (σ : Sg) : ∀ r, J_X8_worth  σ = some r → AMc yX8_worth mX8_worth [.ref 141] N R0 σ (some (.int r), N, R0, σ) := fun r e => AMc.of (L := [some (.ref 141), none, none, none, none]) (by decide) rfl (fun _ => rfl) (fun _ => Nat.le_of_ble_eq_true rfl) (Nat.le_refl _) (fun K => A_X8_worth K hN  σ _ e)
def J_X8_onMeadow_b4  : Nat → Int32 → Int32 → Int32 → Sg → Option Int32
  | 0, _, _, _, _ => none
  | k + 1, x1, x2, x3, σ =>
    (if (σ 141 3) ≤ x3 then (some x2) else (if inb ((37 : Int32) + x3) 54 = true then (if (σ 157 ((37 : Int32) + x3).toNatClampNeg) = (36 : Int32) then (J_X8_onMeadow_b4   k x1 (x2 + (0 : Int32)) (x3 + (1)) σ) else (if inb x3 8 = true then (if (σ 144 x3.toNatClampNeg) = x1 then (J_X8_onMeadow_b4   k x1 (x2 + (1 : Int32)) (x3 + (1)) σ) else (J_X8_onMeadow_b4   k x1 (x2 + (0 : Int32)) (x3 + (1)) σ)) else none)) else none))
set_option maxHeartbeats 4000000 in
theorem A_X8_onMeadow_b4 (K : KT) {N : Nat} (hN : NT ≤ N)  : ∀ (k : Nat) (x1 : Int32) (x2 : Int32) (x3 : Int32) (σ : Sg), AG K mX8_onMeadow N (fun a : Int32 => (some (.int a), N, R0, σ)) (J_X8_onMeadow_b4   k x1 x2 x3 σ) 4 [some (.ref 141), some (.int x1), some (.int x2), some (.int x3)] [] σ := by
  intro k
  induction k with
  | zero => intro x1 x2 x3 σ; exact ag_none
  | succ k ih =>
    intro x1 x2 x3 σ
    rw [J_X8_onMeadow_b4]
    refine ag_iload_3 (q := 5) dX8_onMeadow_4 rfl ?_
    refine ag_aload_0 (q := 6) dX8_onMeadow_5 rfl ?_
    refine ag_getI (q := 9) dX8_onMeadow_6 rfl fl8_112 (Nat.lt_of_lt_of_le (by decide : 141 < NT) hN) (congrArg Prod.fst s_141) rfl ?_
    refine ag_icmp_ge (tgt := 50) (q := 12) dX8_onMeadow_9 rfl rfl ?_ ?_
    · refine ag_iload_2 (q := 51) dX8_onMeadow_50 rfl ?_
      exact ag_iret dX8_onMeadow_51 rfl rfl
    refine ag_iload_2 (q := 13) dX8_onMeadow_12 rfl ?_
    refine ag_aload_0 (q := 14) dX8_onMeadow_13 rfl ?_
    refine ag_getR (q := 17) dX8_onMeadow_14 rfl fl8_55 (Nat.lt_of_lt_of_le (by decide : 141 < NT) hN) (congrArg Prod.fst s_141) rfl r_141_31 ?_
    refine ag_bipush (q := 19) (v := 37) dX8_onMeadow_17 rfl (by decide) ?_
    refine ag_iload_3 (q := 20) dX8_onMeadow_19 rfl ?_
    refine ag_iadd (q := 21) dX8_onMeadow_20 rfl ?_
    refine ag_iald (q := 22) dX8_onMeadow_21 rfl (Nat.lt_of_lt_of_le (by decide : 157 < NT) hN) s_157 ?_
    refine ag_bipush (q := 24) (v := 36) dX8_onMeadow_22 rfl (by decide) ?_
    refine ag_icmp_eq (tgt := 41) (q := 27) dX8_onMeadow_24 rfl rfl ?_ ?_
    · refine ag_iconst (q := 42) (v := 0) dX8_onMeadow_41 rfl (by decide) ?_
      refine ag_iadd (q := 43) dX8_onMeadow_42 rfl ?_
      refine ag_istore_2 (q := 44) dX8_onMeadow_43 rfl (Nat.le_of_ble_eq_true rfl) rfl ?_
      refine ag_iinc_3 (q := 47) (d := (1)) dX8_onMeadow_44 rfl (Nat.le_of_ble_eq_true rfl) rfl (by decide) ?_
      refine ag_goto (q := 4) dX8_onMeadow_47 rfl ?_
      exact ih x1 (x2 + (0 : Int32)) (x3 + (1)) σ
    refine ag_aload_0 (q := 28) dX8_onMeadow_27 rfl ?_
    refine ag_getR (q := 31) dX8_onMeadow_28 rfl fl8_16 (Nat.lt_of_lt_of_le (by decide : 141 < NT) hN) (congrArg Prod.fst s_141) rfl r_141_5 ?_
    refine ag_iload_3 (q := 32) dX8_onMeadow_31 rfl ?_
    refine ag_iald (q := 33) dX8_onMeadow_32 rfl (Nat.lt_of_lt_of_le (by decide : 144 < NT) hN) s_144 ?_
    refine ag_iload_1 (q := 34) dX8_onMeadow_33 rfl ?_
    refine ag_icmp_ne (tgt := 41) (q := 37) dX8_onMeadow_34 rfl rfl ?_ ?_
    · refine ag_iconst (q := 42) (v := 0) dX8_onMeadow_41 rfl (by decide) ?_
      refine ag_iadd (q := 43) dX8_onMeadow_42 rfl ?_
      refine ag_istore_2 (q := 44) dX8_onMeadow_43 rfl (Nat.le_of_ble_eq_true rfl) rfl ?_
      refine ag_iinc_3 (q := 47) (d := (1)) dX8_onMeadow_44 rfl (Nat.le_of_ble_eq_true rfl) rfl (by decide) ?_
      refine ag_goto (q := 4) dX8_onMeadow_47 rfl ?_
      exact ih x1 (x2 + (0 : Int32)) (x3 + (1)) σ
    refine ag_iconst (q := 38) (v := 1) dX8_onMeadow_37 rfl (by decide) ?_
    refine ag_goto (q := 42) dX8_onMeadow_38 rfl ?_
    refine ag_iadd (q := 43) dX8_onMeadow_42 rfl ?_
    refine ag_istore_2 (q := 44) dX8_onMeadow_43 rfl (Nat.le_of_ble_eq_true rfl) rfl ?_
    refine ag_iinc_3 (q := 47) (d := (1)) dX8_onMeadow_44 rfl (Nat.le_of_ble_eq_true rfl) rfl (by decide) ?_
    refine ag_goto (q := 4) dX8_onMeadow_47 rfl ?_
    exact ih x1 (x2 + (1 : Int32)) (x3 + (1)) σ
def J_X8_onMeadow (a1 : Int32) (σ : Sg) : Option Int32 :=
  (J_X8_onMeadow_b4   FU a1 (0 : Int32) (0 : Int32) σ)
set_option maxHeartbeats 4000000 in
theorem A_X8_onMeadow (K : KT) {N : Nat} (hN : NT ≤ N) (a1 : Int32) (σ : Sg) : AG K mX8_onMeadow N (fun a : Int32 => (some (.int a), N, R0, σ)) (J_X8_onMeadow a1 σ) 0 [some (.ref 141), some (.int a1), none, none] [] σ := by
  unfold J_X8_onMeadow
  refine ag_iconst (q := 1) (v := 0) dX8_onMeadow_0 rfl (by decide) ?_
  refine ag_istore_2 (q := 2) dX8_onMeadow_1 rfl (Nat.le_of_ble_eq_true rfl) rfl ?_
  refine ag_iconst (q := 3) (v := 0) dX8_onMeadow_2 rfl (by decide) ?_
  refine ag_istore_3 (q := 4) dX8_onMeadow_3 rfl (Nat.le_of_ble_eq_true rfl) rfl ?_
  exact A_X8_onMeadow_b4 K hN   FU a1 (0 : Int32) (0 : Int32) σ
theorem C_X8_onMeadow {N : Nat} (hN : NT ≤ N) (a1 : Int32) (σ : Sg) : ∀ r, J_X8_onMeadow a1 σ = some r → AMc yX8_onMeadow mX8_onMeadow [.ref 141, .int a1] N R0 σ (some (.int r), N, R0, σ) := fun r e => AMc.of (L := [some (.ref 141), some (.int a1), none, none]) (by decide) rfl (fun _ => rfl) (fun _ => Nat.le_of_ble_eq_true rfl) (Nat.le_refl _) (fun K => A_X8_onMeadow K hN a1 σ _ e)
def J_X8_orNone (a0 : Int32) (σ : Sg) : Option Int32 :=
  (if a0 = (36 : Int32) then (some (-4 : Int32)) else (some a0))
set_option maxHeartbeats 4000000 in
theorem A_X8_orNone (K : KT) {N : Nat} (hN : NT ≤ N) (a0 : Int32) (σ : Sg) : AG K mX8_orNone N (fun a : Int32 => (some (.int a), N, R0, σ)) (J_X8_orNone a0 σ) 0 [some (.int a0)] [] σ := by
  unfold J_X8_orNone
  refine ag_iload_0 (q := 1) dX8_orNone_0 rfl ?_
  refine ag_bipush (q := 3) (v := 36) dX8_orNone_1 rfl (by decide) ?_
  refine ag_icmp_ne (tgt := 11) (q := 6) dX8_orNone_3 rfl rfl ?_ ?_
  · refine ag_iload_0 (q := 12) dX8_orNone_11 rfl ?_
    exact ag_iret dX8_orNone_12 rfl rfl
  refine ag_bipush (q := 8) (v := -4) dX8_orNone_6 rfl (by decide) ?_
  refine ag_goto (q := 12) dX8_orNone_8 rfl ?_
  exact ag_iret dX8_orNone_12 rfl rfl
theorem C_X8_orNone {N : Nat} (hN : NT ≤ N) (a0 : Int32) (σ : Sg) : ∀ r, J_X8_orNone a0 σ = some r → AMc yX8_orNone mX8_orNone [.int a0] N R0 σ (some (.int r), N, R0, σ) := fun r e => AMc.of (L := [some (.int a0)]) (by decide) rfl (fun _ => rfl) (fun _ => Nat.le_of_ble_eq_true rfl) (Nat.le_refl _) (fun K => A_X8_orNone K hN a0 σ _ e)
def J_X8_square (a1 : Int32) (a2 : Int32) (σ : Sg) : Option (Int32 × Sg) :=
  (bd1 (J_X8_isSquare a1 σ) fun r2 => (if r2 = 0 then (some ((-1 : Int32), σ)) else (bd1 (J_X8_in a2 (0 : Int32) (1 : Int32) σ) fun r11 => (if r11 = 0 then (some ((-1 : Int32), σ)) else (bd2 (J_X8_asItIs  σ) fun r20 s20 => (if a2 = (1 : Int32) then (bd1 (J_X8_onIt a1 s20) fun r30 => (some (r30, s20))) else (if inb a1 36 = true then (if (s20 142 a1.toNatClampNeg) = (9 : Int32) then (some ((9 : Int32), s20)) else (if inb ((1 : Int32) + a1) 54 = true then (some ((s20 146 ((1 : Int32) + a1).toNatClampNeg), s20)) else none)) else none)))))))
set_option maxHeartbeats 4000000 in
theorem A_X8_square (K : KT) {N : Nat} (hN : NT ≤ N) (a1 : Int32) (a2 : Int32) (σ : Sg) : AG K mX8_square N (fun a : Int32 × Sg => (some (.int a.1), N, R0, a.2)) (J_X8_square a1 a2 σ) 0 [some (.ref 141), some (.int a1), some (.int a2)] [] σ := by
  unfold J_X8_square
  refine ag_aload_0 (q := 1) dX8_square_0 rfl ?_
  refine ag_iload_1 (q := 2) dX8_square_1 rfl ?_
  refine ag_callV_pI (q := 5) (av := [.int _]) (rest := []) dX8_square_2 rfl lk8_225 (C_X8_isSquare hN a1 _) (by decide) (Nat.le_of_ble_eq_true rfl) (Nat.lt_of_lt_of_le (by decide : 141 < NT) hN) (congrArg Prod.fst s_141) (by decide) (fun _ => rfl) (Nat.le_of_ble_eq_true rfl) rfl (fun r2 e2 => ?_)
  refine ag_if_eq (tgt := 17) (q := 8) dX8_square_5 rfl rfl ?_ ?_
  · refine ag_iconst (q := 18) (v := -1) dX8_square_17 rfl (by decide) ?_
    exact ag_iret dX8_square_18 rfl rfl
  refine ag_iload_2 (q := 9) dX8_square_8 rfl ?_
  refine ag_iconst (q := 10) (v := 0) dX8_square_9 rfl (by decide) ?_
  refine ag_iconst (q := 11) (v := 1) dX8_square_10 rfl (by decide) ?_
  refine ag_callS_pI (q := 14) (av := [.int _, .int _, .int _]) (rest := []) dX8_square_11 rfl lk8_115 (C_X8_in hN a2 (0 : Int32) (1 : Int32) _) (by decide) (Nat.le_of_ble_eq_true rfl) (fun _ => rfl) (Nat.le_of_ble_eq_true rfl) rfl (fun r11 e11 => ?_)
  refine ag_if_ne (tgt := 19) (q := 17) dX8_square_14 rfl rfl ?_ ?_
  · refine ag_aload_0 (q := 20) dX8_square_19 rfl ?_
    refine ag_callV_mU (q := 23) (av := []) (rest := []) dX8_square_20 rfl lk8_228 (C_X8_asItIs hN  _) (by decide) (Nat.le_of_ble_eq_true rfl) (Nat.lt_of_lt_of_le (by decide : 141 < NT) hN) (congrArg Prod.fst s_141) (by decide) (fun _ => rfl) (Nat.le_of_ble_eq_true rfl) rfl (fun r20 s20 e20 => ?_)
    refine ag_iload_2 (q := 24) dX8_square_23 rfl ?_
    refine ag_iconst (q := 25) (v := 1) dX8_square_24 rfl (by decide) ?_
    refine ag_icmp_ne (tgt := 36) (q := 28) dX8_square_25 rfl rfl ?_ ?_
    · refine ag_aload_0 (q := 37) dX8_square_36 rfl ?_
      refine ag_getR (q := 40) dX8_square_37 rfl fl8_7 (Nat.lt_of_lt_of_le (by decide : 141 < NT) hN) (congrArg Prod.fst s_141) rfl r_141_2 ?_
      refine ag_iload_1 (q := 41) dX8_square_40 rfl ?_
      refine ag_iald (q := 42) dX8_square_41 rfl (Nat.lt_of_lt_of_le (by decide : 142 < NT) hN) s_142 ?_
      refine ag_bipush (q := 44) (v := 9) dX8_square_42 rfl (by decide) ?_
      refine ag_icmp_ne (tgt := 52) (q := 47) dX8_square_44 rfl rfl ?_ ?_
      · refine ag_aload_0 (q := 53) dX8_square_52 rfl ?_
        refine ag_getR (q := 56) dX8_square_53 rfl fl8_22 (Nat.lt_of_lt_of_le (by decide : 141 < NT) hN) (congrArg Prod.fst s_141) rfl r_141_10 ?_
        refine ag_iconst (q := 57) (v := 1) dX8_square_56 rfl (by decide) ?_
        refine ag_iload_1 (q := 58) dX8_square_57 rfl ?_
        refine ag_iadd (q := 59) dX8_square_58 rfl ?_
        refine ag_iald (q := 60) dX8_square_59 rfl (Nat.lt_of_lt_of_le (by decide : 146 < NT) hN) s_146 ?_
        exact ag_iret dX8_square_60 rfl rfl
      refine ag_bipush (q := 49) (v := 9) dX8_square_47 rfl (by decide) ?_
      refine ag_goto (q := 60) dX8_square_49 rfl ?_
      exact ag_iret dX8_square_60 rfl rfl
    refine ag_aload_0 (q := 29) dX8_square_28 rfl ?_
    refine ag_iload_1 (q := 30) dX8_square_29 rfl ?_
    refine ag_callV_pI (q := 33) (av := [.int _]) (rest := []) dX8_square_30 rfl lk8_189 (C_X8_onIt hN a1 _) (by decide) (Nat.le_of_ble_eq_true rfl) (Nat.lt_of_lt_of_le (by decide : 141 < NT) hN) (congrArg Prod.fst s_141) (by decide) (fun _ => rfl) (Nat.le_of_ble_eq_true rfl) rfl (fun r30 e30 => ?_)
    refine ag_goto (q := 60) dX8_square_33 rfl ?_
    exact ag_iret dX8_square_60 rfl rfl
  refine ag_iconst (q := 18) (v := -1) dX8_square_17 rfl (by decide) ?_
  exact ag_iret dX8_square_18 rfl rfl
theorem C_X8_square {N : Nat} (hN : NT ≤ N) (a1 : Int32) (a2 : Int32) (σ : Sg) : ∀ r s', J_X8_square a1 a2 σ = some (r, s') → AMc yX8_square mX8_square [.ref 141, .int a1, .int a2] N R0 σ (some (.int r), N, R0, s') := fun r s' e => AMc.of (L := [some (.ref 141), some (.int a1), some (.int a2)]) (by decide) rfl (fun _ => rfl) (fun _ => Nat.le_of_ble_eq_true rfl) (Nat.le_refl _) (fun K => A_X8_square K hN a1 a2 σ _ e)
def J_X8_beast (a1 : Int32) (a2 : Int32) (σ : Sg) : Option (Int32 × Sg) :=
  (bd1 (J_X8_isBeast a1 σ) fun r2 => (if r2 = 0 then (some ((-1 : Int32), σ)) else (bd2 (J_X8_asItIs  σ) fun r11 s11 => (if a2 = 0 then (bd1 (J_X8_kindOf a1 s11) fun r46 => (some (r46, s11))) else (if a2 = 1 then (if inb a1 8 = true then (some ((s11 144 a1.toNatClampNeg), s11)) else none) else (if a2 = 2 then (if inb ((37 : Int32) + a1) 54 = true then (bd1 (J_X8_orNone (s11 146 ((37 : Int32) + a1).toNatClampNeg) s11) fun r66 => (some (r66, s11))) else none) else (if a2 = 3 then (if inb ((45 : Int32) + a1) 54 = true then (some ((s11 146 ((45 : Int32) + a1).toNatClampNeg), s11)) else none) else (some ((-1 : Int32), s11)))))))))
set_option maxHeartbeats 4000000 in
theorem A_X8_beast (K : KT) {N : Nat} (hN : NT ≤ N) (a1 : Int32) (a2 : Int32) (σ : Sg) : AG K mX8_beast N (fun a : Int32 × Sg => (some (.int a.1), N, R0, a.2)) (J_X8_beast a1 a2 σ) 0 [some (.ref 141), some (.int a1), some (.int a2)] [] σ := by
  unfold J_X8_beast
  refine ag_aload_0 (q := 1) dX8_beast_0 rfl ?_
  refine ag_iload_1 (q := 2) dX8_beast_1 rfl ?_
  refine ag_callV_pI (q := 5) (av := [.int _]) (rest := []) dX8_beast_2 rfl lk8_231 (C_X8_isBeast hN a1 _) (by decide) (Nat.le_of_ble_eq_true rfl) (Nat.lt_of_lt_of_le (by decide : 141 < NT) hN) (congrArg Prod.fst s_141) (by decide) (fun _ => rfl) (Nat.le_of_ble_eq_true rfl) rfl (fun r2 e2 => ?_)
  refine ag_if_ne (tgt := 10) (q := 8) dX8_beast_5 rfl rfl ?_ ?_
  · refine ag_aload_0 (q := 11) dX8_beast_10 rfl ?_
    refine ag_callV_mU (q := 14) (av := []) (rest := []) dX8_beast_11 rfl lk8_228 (C_X8_asItIs hN  _) (by decide) (Nat.le_of_ble_eq_true rfl) (Nat.lt_of_lt_of_le (by decide : 141 < NT) hN) (congrArg Prod.fst s_141) (by decide) (fun _ => rfl) (Nat.le_of_ble_eq_true rfl) rfl (fun r11 s11 e11 => ?_)
    refine ag_iload_2 (q := 15) dX8_beast_14 rfl ?_
    refine ag_ite (fun z0 => ?_) (fun z0 => ?_)
    · refine ag_tin (k := 0) (q := 44) dX8_beast_15 z0 (by decide) (by decide) rfl rfl ?_
      refine ag_aload_0 (q := 45) dX8_beast_44 rfl ?_
      refine ag_iload_1 (q := 46) dX8_beast_45 rfl ?_
      refine ag_callV_pI (q := 49) (av := [.int _]) (rest := []) dX8_beast_46 rfl lk8_192 (C_X8_kindOf hN a1 _) (by decide) (Nat.le_of_ble_eq_true rfl) (Nat.lt_of_lt_of_le (by decide : 141 < NT) hN) (congrArg Prod.fst s_141) (by decide) (fun _ => rfl) (Nat.le_of_ble_eq_true rfl) rfl (fun r46 e46 => ?_)
      exact ag_iret dX8_beast_49 rfl rfl
    refine ag_ite (fun z1 => ?_) (fun z1 => ?_)
    · refine ag_tin (k := 1) (q := 50) dX8_beast_15 z1 (by decide) (by decide) rfl rfl ?_
      refine ag_aload_0 (q := 51) dX8_beast_50 rfl ?_
      refine ag_getR (q := 54) dX8_beast_51 rfl fl8_16 (Nat.lt_of_lt_of_le (by decide : 141 < NT) hN) (congrArg Prod.fst s_141) rfl r_141_5 ?_
      refine ag_iload_1 (q := 55) dX8_beast_54 rfl ?_
      refine ag_iald (q := 56) dX8_beast_55 rfl (Nat.lt_of_lt_of_le (by decide : 144 < NT) hN) s_144 ?_
      exact ag_iret dX8_beast_56 rfl rfl
    refine ag_ite (fun z2 => ?_) (fun z2 => ?_)
    · refine ag_tin (k := 2) (q := 57) dX8_beast_15 z2 (by decide) (by decide) rfl rfl ?_
      refine ag_aload_0 (q := 58) dX8_beast_57 rfl ?_
      refine ag_getR (q := 61) dX8_beast_58 rfl fl8_22 (Nat.lt_of_lt_of_le (by decide : 141 < NT) hN) (congrArg Prod.fst s_141) rfl r_141_10 ?_
      refine ag_bipush (q := 63) (v := 37) dX8_beast_61 rfl (by decide) ?_
      refine ag_iload_1 (q := 64) dX8_beast_63 rfl ?_
      refine ag_iadd (q := 65) dX8_beast_64 rfl ?_
      refine ag_iald (q := 66) dX8_beast_65 rfl (Nat.lt_of_lt_of_le (by decide : 146 < NT) hN) s_146 ?_
      refine ag_callS_pI (q := 69) (av := [.int _]) (rest := []) dX8_beast_66 rfl lk8_234 (C_X8_orNone hN (s11 146 ((37 : Int32) + a1).toNatClampNeg) _) (by decide) (Nat.le_of_ble_eq_true rfl) (fun _ => rfl) (Nat.le_of_ble_eq_true rfl) rfl (fun r66 e66 => ?_)
      exact ag_iret dX8_beast_69 rfl rfl
    refine ag_ite (fun z3 => ?_) (fun z3 => ?_)
    · refine ag_tin (k := 3) (q := 70) dX8_beast_15 z3 (by decide) (by decide) rfl rfl ?_
      refine ag_aload_0 (q := 71) dX8_beast_70 rfl ?_
      refine ag_getR (q := 74) dX8_beast_71 rfl fl8_22 (Nat.lt_of_lt_of_le (by decide : 141 < NT) hN) (congrArg Prod.fst s_141) rfl r_141_10 ?_
      refine ag_bipush (q := 76) (v := 45) dX8_beast_74 rfl (by decide) ?_
      refine ag_iload_1 (q := 77) dX8_beast_76 rfl ?_
      refine ag_iadd (q := 78) dX8_beast_77 rfl ?_
      refine ag_iald (q := 79) dX8_beast_78 rfl (Nat.lt_of_lt_of_le (by decide : 146 < NT) hN) s_146 ?_
      exact ag_iret dX8_beast_79 rfl rfl
    refine ag_tout (q := 80) dX8_beast_15 (by have q0 := lv_neT z0 (by decide : (0 : Int32).toInt = 0); have q1 := lv_neT z1 (by decide : (1 : Int32).toInt = 1); have q2 := lv_neT z2 (by decide : (2 : Int32).toInt = 2); have q3 := lv_neT z3 (by decide : (3 : Int32).toInt = 3); omega) rfl ?_
    refine ag_iconst (q := 81) (v := -1) dX8_beast_80 rfl (by decide) ?_
    exact ag_iret dX8_beast_81 rfl rfl
  refine ag_iconst (q := 9) (v := -1) dX8_beast_8 rfl (by decide) ?_
  exact ag_iret dX8_beast_9 rfl rfl
theorem C_X8_beast {N : Nat} (hN : NT ≤ N) (a1 : Int32) (a2 : Int32) (σ : Sg) : ∀ r s', J_X8_beast a1 a2 σ = some (r, s') → AMc yX8_beast mX8_beast [.ref 141, .int a1, .int a2] N R0 σ (some (.int r), N, R0, s') := fun r s' e => AMc.of (L := [some (.ref 141), some (.int a1), some (.int a2)]) (by decide) rfl (fun _ => rfl) (fun _ => Nat.le_of_ble_eq_true rfl) (Nat.le_refl _) (fun K => A_X8_beast K hN a1 a2 σ _ e)
