theorem hacI : Cond.arrayClass .int ∈ wT := by decide +kernel
theorem kcL_7 : Cond.constant RL 7 (1899447441 : Int32) ∈ wT := by decide +kernel
theorem kcL_8 : Cond.constant RL 8 (2147483647 : Int32) ∈ wT := by decide +kernel
theorem kcL_103 : Cond.constantLong RL 103 (100000 : Int64) ∈ wT := by decide +kernel
def mL_law : MT := (RL, cL_law, 11, (some .boolean), 32)
def J_L_cell (Ln : Nat) (xs : Nat → Int32) (a1 : Int32) (σ : Sg) : Option Int32 :=
  (if (Int32.ofNat Ln) ≤ a1 then (some (((1899447441 : Int32) * (a1 + (139 : Int32))) + (23 : Int32))) else (if inb a1 Ln = true then (some (xs a1.toNatClampNeg)) else none))
set_option maxHeartbeats 4000000 in
theorem A_L_cell (K : KT) {N : Nat} (hN : NT ≤ N) (Ln : Nat) (xs : Nat → Int32) (hX : KX K Ln xs) (a1 : Int32) (σ : Sg) : AG K mL_cell N (fun a : Int32 => (some (.int a), N, R0, σ)) (J_L_cell Ln xs a1 σ) 0 [some (.retAddr 1), some (.int a1)] [] σ := by
  unfold J_L_cell
  refine ag_iload_1 (q := 1) dL_cell_0 rfl ?_
  refine ag_xload_0 (q := 2) dL_cell_1 rfl ?_
  refine ag_slen hX (q := 3) dL_cell_2 rfl ?_
  refine ag_icmp_ge (tgt := 12) (q := 6) dL_cell_3 rfl rfl ?_ ?_
  · refine ag_ldc (q := 14) (v := 1899447441) dL_cell_12 rfl kcL_7 ?_
    refine ag_iload_1 (q := 15) dL_cell_14 rfl ?_
    refine ag_sipush (q := 18) (v := 139) dL_cell_15 rfl (by decide) ?_
    refine ag_iadd (q := 19) dL_cell_18 rfl ?_
    refine ag_imul (q := 20) dL_cell_19 rfl ?_
    refine ag_bipush (q := 22) (v := 23) dL_cell_20 rfl (by decide) ?_
    refine ag_iadd (q := 23) dL_cell_22 rfl ?_
    exact ag_iret dL_cell_23 rfl rfl
  refine ag_xload_0 (q := 7) dL_cell_6 rfl ?_
  refine ag_iload_1 (q := 8) dL_cell_7 rfl ?_
  refine ag_sld hX (q := 9) dL_cell_8 rfl ?_
  refine ag_goto (q := 23) dL_cell_9 rfl ?_
  exact ag_iret dL_cell_23 rfl rfl
theorem C_L_cell {N : Nat} (hN : NT ≤ N) (Ln : Nat) (xs : Nat → Int32) (a1 : Int32) (σ : Sg) : ∀ r, J_L_cell Ln xs a1 σ = some r → AMx Ln xs yL_cell mL_cell [.retAddr 1, .int a1] N R0 σ (some (.int r), N, R0, σ) := fun r e => AMx.of (L := [some (.retAddr 1), some (.int a1)]) (by decide) rfl (fun _ => rfl) (fun _ => Nat.le_of_ble_eq_true rfl) (Nat.le_refl _) (fun K hX => A_L_cell K hN Ln xs hX a1 σ _ e (Nat.le_refl _))
def J_L_low (a0 : Int32) (a1 : Int32) (σ : Sg) : Option Int32 :=
  (if a1 = 0 then none else (some (rmI (a0 &&& (2147483647 : Int32)) a1)))
set_option maxHeartbeats 4000000 in
theorem A_L_low (K : KT) {N : Nat} (hN : NT ≤ N) (a0 : Int32) (a1 : Int32) (σ : Sg) : AG K mL_low N (fun a : Int32 => (some (.int a), N, R0, σ)) (J_L_low a0 a1 σ) 0 [some (.int a0), some (.int a1)] [] σ := by
  unfold J_L_low
  refine ag_iload_0 (q := 1) dL_low_0 rfl ?_
  refine ag_ldc (q := 3) (v := 2147483647) dL_low_1 rfl kcL_8 ?_
  refine ag_iand (q := 4) dL_low_3 rfl ?_
  refine ag_iload_1 (q := 5) dL_low_4 rfl ?_
  refine ag_irem (q := 6) dL_low_5 rfl ?_
  exact ag_iret dL_low_6 rfl rfl
theorem C_L_low {N : Nat} (hN : NT ≤ N) (a0 : Int32) (a1 : Int32) (σ : Sg) : ∀ r, J_L_low a0 a1 σ = some r → AMc yL_low mL_low [.int a0, .int a1] N R0 σ (some (.int r), N, R0, σ) := fun r e => AMc.of (L := [some (.int a0), some (.int a1)]) (by decide) rfl (fun _ => rfl) (fun _ => Nat.le_of_ble_eq_true rfl) (Nat.le_refl _) (fun K => A_L_low K hN a0 a1 σ _ e (Nat.le_refl _))
def J_L_number_b20  (x1 : Int32) (x2 : Int32) (σ : Sg) : Option (Int32 × Sg) :=
  (bd2 (J_X7_write ((48 : Int32) + (rmI x1 (10 : Int32))) σ) fun r28 s28 => (if r28 ≤ 0 then (some ((0 : Int32), s28)) else (bd2 (J_X7_write x2 s28) fun r36 s36 => (if r36 ≤ 0 then (some ((0 : Int32), s36)) else (some ((1 : Int32), s36))))))
set_option maxHeartbeats 4000000 in
theorem A_L_number_b20 (K : KT) {N : Nat} (hN : NT ≤ N)  (x1 : Int32) (x2 : Int32) (σ : Sg) : AG K mL_number N (fun a : Int32 × Sg => (some (.int a.1), N, R0, a.2)) (J_L_number_b20   x1 x2 σ) 20 [some (.ref 0), some (.int x1), some (.int x2)] [] σ := by
  unfold J_L_number_b20
  refine ag_aload_0 (q := 21) dL_number_20 rfl ?_
  refine ag_bipush (q := 23) (v := 48) dL_number_21 rfl (by decide) ?_
  refine ag_iload_1 (q := 24) dL_number_23 rfl ?_
  refine ag_bipush (q := 26) (v := 10) dL_number_24 rfl (by decide) ?_
  refine ag_iremK (q := 27) dL_number_26 rfl (by decide) ?_
  refine ag_iadd (q := 28) dL_number_27 rfl ?_
  refine ag_callV_mI (q := 31) (av := [.int _]) (rest := []) dL_number_28 rfl lkL_9 (C_X7_write (Nat.le_trans (by decide) hN) ((48 : Int32) + (rmI x1 (10 : Int32))) _) (by decide) (Nat.le_of_ble_eq_true rfl) (Nat.lt_of_lt_of_le (by decide : 0 < NT) hN) (congrArg Prod.fst s_0) (by decide) (fun _ => rfl) (Nat.le_of_ble_eq_true rfl) rfl (fun r28 s28 e28 => ?_)
  refine ag_if_le (tgt := 46) (q := 34) dL_number_31 rfl rfl ?_ ?_
  · refine ag_iconst (q := 47) (v := 0) dL_number_46 rfl (by decide) ?_
    exact ag_zretK dL_number_47 rfl (by decide) rfl
  refine ag_aload_0 (q := 35) dL_number_34 rfl ?_
  refine ag_iload_2 (q := 36) dL_number_35 rfl ?_
  refine ag_callV_mI (q := 39) (av := [.int _]) (rest := []) dL_number_36 rfl lkL_9 (C_X7_write (Nat.le_trans (by decide) hN) x2 _) (by decide) (Nat.le_of_ble_eq_true rfl) (Nat.lt_of_lt_of_le (by decide : 0 < NT) hN) (congrArg Prod.fst s_0) (by decide) (fun _ => rfl) (Nat.le_of_ble_eq_true rfl) rfl (fun r36 s36 e36 => ?_)
  refine ag_if_le (tgt := 46) (q := 42) dL_number_39 rfl rfl ?_ ?_
  · refine ag_iconst (q := 47) (v := 0) dL_number_46 rfl (by decide) ?_
    exact ag_zretK dL_number_47 rfl (by decide) rfl
  refine ag_iconst (q := 43) (v := 1) dL_number_42 rfl (by decide) ?_
  refine ag_goto (q := 47) dL_number_43 rfl ?_
  exact ag_zretK dL_number_47 rfl (by decide) rfl
def J_L_number (a1 : Int32) (a2 : Int32) (σ : Sg) : Option (Int32 × Sg) :=
  (if a1 < (10 : Int32) then (J_L_number_b20   a1 a2 σ) else (bd2 (J_X7_write ((48 : Int32) + (a1 / (10 : Int32))) σ) fun r14 s14 => (if r14 ≤ 0 then (some ((0 : Int32), s14)) else (J_L_number_b20   a1 a2 s14))))
set_option maxHeartbeats 4000000 in
theorem A_L_number (K : KT) {N : Nat} (hN : NT ≤ N) (a1 : Int32) (a2 : Int32) (σ : Sg) : AG K mL_number N (fun a : Int32 × Sg => (some (.int a.1), N, R0, a.2)) (J_L_number a1 a2 σ) 0 [some (.ref 0), some (.int a1), some (.int a2)] [] σ := by
  unfold J_L_number
  refine ag_iload_1 (q := 1) dL_number_0 rfl ?_
  refine ag_bipush (q := 3) (v := 10) dL_number_1 rfl (by decide) ?_
  refine ag_icmp_lt (tgt := 20) (q := 6) dL_number_3 rfl rfl ?_ ?_
  · exact A_L_number_b20 K hN   a1 a2 σ
  refine ag_aload_0 (q := 7) dL_number_6 rfl ?_
  refine ag_bipush (q := 9) (v := 48) dL_number_7 rfl (by decide) ?_
  refine ag_iload_1 (q := 10) dL_number_9 rfl ?_
  refine ag_bipush (q := 12) (v := 10) dL_number_10 rfl (by decide) ?_
  refine ag_idivK (q := 13) dL_number_12 rfl (by decide) ?_
  refine ag_iadd (q := 14) dL_number_13 rfl ?_
  refine ag_callV_mI (q := 17) (av := [.int _]) (rest := []) dL_number_14 rfl lkL_9 (C_X7_write (Nat.le_trans (by decide) hN) ((48 : Int32) + (a1 / (10 : Int32))) _) (by decide) (Nat.le_of_ble_eq_true rfl) (Nat.lt_of_lt_of_le (by decide : 0 < NT) hN) (congrArg Prod.fst s_0) (by decide) (fun _ => rfl) (Nat.le_of_ble_eq_true rfl) rfl (fun r14 s14 e14 => ?_)
  refine ag_if_le (tgt := 46) (q := 20) dL_number_17 rfl rfl ?_ ?_
  · refine ag_iconst (q := 47) (v := 0) dL_number_46 rfl (by decide) ?_
    exact ag_zretK dL_number_47 rfl (by decide) rfl
  exact A_L_number_b20 K hN   a1 a2 s14
theorem C_L_number {N : Nat} (hN : NT ≤ N) (a1 : Int32) (a2 : Int32) (σ : Sg) : ∀ r s', J_L_number a1 a2 σ = some (r, s') → AMc yL_number mL_number [.ref 0, .int a1, .int a2] N R0 σ (some (.int r), N, R0, s') := fun r s' e => AMc.of (L := [some (.ref 0), some (.int a1), some (.int a2)]) (by decide) rfl (fun _ => rfl) (fun _ => Nat.le_of_ble_eq_true rfl) (Nat.le_refl _) (fun K => A_L_number K hN a1 a2 σ _ e (Nat.le_refl _))
def J_L_one (a1 : Int32) (a2 : Int32) (σ : Sg) : Option (Int32 × Sg) :=
  (bd2 (J_X7_write a1 σ) fun r2 s2 => (if r2 ≤ 0 then (some ((0 : Int32), s2)) else (bd2 (J_L_number a2 (59 : Int32) s2) fun r12 s12 => (if r12 = 0 then (some ((0 : Int32), s12)) else (some ((1 : Int32), s12))))))
set_option maxHeartbeats 4000000 in
theorem A_L_one (K : KT) {N : Nat} (hN : NT ≤ N) (a1 : Int32) (a2 : Int32) (σ : Sg) : AG K mL_one N (fun a : Int32 × Sg => (some (.int a.1), N, R0, a.2)) (J_L_one a1 a2 σ) 0 [some (.ref 0), some (.int a1), some (.int a2)] [] σ := by
  unfold J_L_one
  refine ag_aload_0 (q := 1) dL_one_0 rfl ?_
  refine ag_iload_1 (q := 2) dL_one_1 rfl ?_
  refine ag_callV_mI (q := 5) (av := [.int _]) (rest := []) dL_one_2 rfl lkL_9 (C_X7_write (Nat.le_trans (by decide) hN) a1 _) (by decide) (Nat.le_of_ble_eq_true rfl) (Nat.lt_of_lt_of_le (by decide : 0 < NT) hN) (congrArg Prod.fst s_0) (by decide) (fun _ => rfl) (Nat.le_of_ble_eq_true rfl) rfl (fun r2 s2 e2 => ?_)
  refine ag_if_le (tgt := 22) (q := 8) dL_one_5 rfl rfl ?_ ?_
  · refine ag_iconst (q := 23) (v := 0) dL_one_22 rfl (by decide) ?_
    exact ag_zretK dL_one_23 rfl (by decide) rfl
  refine ag_aload_0 (q := 9) dL_one_8 rfl ?_
  refine ag_iload_2 (q := 10) dL_one_9 rfl ?_
  refine ag_bipush (q := 12) (v := 59) dL_one_10 rfl (by decide) ?_
  refine ag_callS_mI (q := 15) (av := [.ref _, .int _, .int _]) (rest := []) dL_one_12 rfl lkL_15 (C_L_number hN a2 (59 : Int32) _) (by decide) (Nat.le_of_ble_eq_true rfl) (fun _ => rfl) (Nat.le_of_ble_eq_true rfl) rfl (fun r12 s12 e12 => ?_)
  refine ag_if_eq (tgt := 22) (q := 18) dL_one_15 rfl rfl ?_ ?_
  · refine ag_iconst (q := 23) (v := 0) dL_one_22 rfl (by decide) ?_
    exact ag_zretK dL_one_23 rfl (by decide) rfl
  refine ag_iconst (q := 19) (v := 1) dL_one_18 rfl (by decide) ?_
  refine ag_goto (q := 23) dL_one_19 rfl ?_
  exact ag_zretK dL_one_23 rfl (by decide) rfl
theorem C_L_one {N : Nat} (hN : NT ≤ N) (a1 : Int32) (a2 : Int32) (σ : Sg) : ∀ r s', J_L_one a1 a2 σ = some (r, s') → AMc yL_one mL_one [.ref 0, .int a1, .int a2] N R0 σ (some (.int r), N, R0, s') := fun r s' e => AMc.of (L := [some (.ref 0), some (.int a1), some (.int a2)]) (by decide) rfl (fun _ => rfl) (fun _ => Nat.le_of_ble_eq_true rfl) (Nat.le_refl _) (fun K => A_L_one K hN a1 a2 σ _ e (Nat.le_refl _))
def J_L_bog (a1 : Int32) (σ : Sg) : Option Int32 :=
  (if (σ 141 1) = 0 then none else (if inb ((7 : Int32) + (a1 / (σ 141 1))) 22 = true then (if (σ 141 1) = 0 then none else (if (((σ 141 ((7 : Int32) + (a1 / (σ 141 1))).toNatClampNeg) >>> ((rmI a1 (σ 141 1)) &&& 31)) &&& (1 : Int32)) = (1 : Int32) then (some (1 : Int32)) else (some (0 : Int32)))) else none))
set_option maxHeartbeats 4000000 in
theorem A_L_bog (K : KT) {N : Nat} (hN : NT ≤ N) (a1 : Int32) (σ : Sg) : AG K mL_bog N (fun a : Int32 => (some (.int a), N, R0, σ)) (J_L_bog a1 σ) 0 [some (.ref 141), some (.int a1)] [] σ := by
  unfold J_L_bog
  refine ag_aload_0 (q := 1) dL_bog_0 rfl ?_
  refine ag_bipush (q := 3) (v := 7) dL_bog_1 rfl (by decide) ?_
  refine ag_iload_1 (q := 4) dL_bog_3 rfl ?_
  refine ag_aload_0 (q := 5) dL_bog_4 rfl ?_
  refine ag_iconst (q := 6) (v := 1) dL_bog_5 rfl (by decide) ?_
  refine ag_ialdK (q := 7) (k := 1) dL_bog_6 rfl (Nat.lt_of_lt_of_le (by decide : 141 < NT) hN) s_141 (by decide) (by decide) ?_
  refine ag_idiv (q := 8) dL_bog_7 rfl ?_
  refine ag_iadd (q := 9) dL_bog_8 rfl ?_
  refine ag_iald (q := 10) dL_bog_9 rfl (Nat.lt_of_lt_of_le (by decide : 141 < NT) hN) s_141 ?_
  refine ag_iload_1 (q := 11) dL_bog_10 rfl ?_
  refine ag_aload_0 (q := 12) dL_bog_11 rfl ?_
  refine ag_iconst (q := 13) (v := 1) dL_bog_12 rfl (by decide) ?_
  refine ag_ialdK (q := 14) (k := 1) dL_bog_13 rfl (Nat.lt_of_lt_of_le (by decide : 141 < NT) hN) s_141 (by decide) (by decide) ?_
  refine ag_irem (q := 15) dL_bog_14 rfl ?_
  refine ag_ishr (q := 16) dL_bog_15 rfl ?_
  refine ag_iconst (q := 17) (v := 1) dL_bog_16 rfl (by decide) ?_
  refine ag_iand (q := 18) dL_bog_17 rfl ?_
  refine ag_iconst (q := 19) (v := 1) dL_bog_18 rfl (by decide) ?_
  refine ag_icmp_ne (tgt := 26) (q := 22) dL_bog_19 rfl rfl ?_ ?_
  · refine ag_iconst (q := 27) (v := 0) dL_bog_26 rfl (by decide) ?_
    exact ag_zretK dL_bog_27 rfl (by decide) rfl
  refine ag_iconst (q := 23) (v := 1) dL_bog_22 rfl (by decide) ?_
  refine ag_goto (q := 27) dL_bog_23 rfl ?_
  exact ag_zretK dL_bog_27 rfl (by decide) rfl
theorem C_L_bog {N : Nat} (hN : NT ≤ N) (a1 : Int32) (σ : Sg) : ∀ r, J_L_bog a1 σ = some r → AMc yL_bog mL_bog [.ref 141, .int a1] N R0 σ (some (.int r), N, R0, σ) := fun r e => AMc.of (L := [some (.ref 141), some (.int a1)]) (by decide) rfl (fun _ => rfl) (fun _ => Nat.le_of_ble_eq_true rfl) (Nat.le_refl _) (fun K => A_L_bog K hN a1 σ _ e (Nat.le_refl _))
def J_L_make_b762 (Ln : Nat) (xs : Nat → Int32)  : Nat → Int32 → Int32 → Int32 → Int32 → Sg → Option (Int32 × Sg)
  | 0, _, _, _, _, _ => none
  | k + 1, x2, x7, x11, x12, σ =>
    (if x11 ≤ x12 then (if x7 = 0 then (some ((0 : Int32), σ)) else (bd2 (J_X7_fault  σ) fun r840 s840 => (if r840 = (-4 : Int32) then (bd2 (J_X7_lay  s840) fun r849 s849 => (if r849 = (s849 141 2) then (some ((1 : Int32), s849)) else (some ((0 : Int32), s849)))) else (some ((0 : Int32), s840))))) else (bd1 (J_L_cell Ln xs (x2 + (11 : Int32)) σ) fun r774 => (if x7 = 0 then (J_L_make_b762 Ln xs   k x2 (0 : Int32) x11 (x12 + (1)) (up (up σ 141 6 ((σ 141 6) ||| (((r774 >>> (x12 &&& 31)) &&& (1 : Int32)) <<< (x12 &&& 31)))) 141 5 (((up σ 141 6 ((σ 141 6) ||| (((r774 >>> (x12 &&& 31)) &&& (1 : Int32)) <<< (x12 &&& 31)))) 141 5) + (1 : Int32)))) else (bd2 (J_L_one (115 : Int32) ((r774 >>> (x12 &&& 31)) &&& (1 : Int32)) (up (up σ 141 6 ((σ 141 6) ||| (((r774 >>> (x12 &&& 31)) &&& (1 : Int32)) <<< (x12 &&& 31)))) 141 5 (((up σ 141 6 ((σ 141 6) ||| (((r774 >>> (x12 &&& 31)) &&& (1 : Int32)) <<< (x12 &&& 31)))) 141 5) + (1 : Int32)))) fun r815 s815 => (if r815 = 0 then (J_L_make_b762 Ln xs   k x2 (0 : Int32) x11 (x12 + (1)) s815) else (J_L_make_b762 Ln xs   k x2 (1 : Int32) x11 (x12 + (1)) s815))))))
set_option maxHeartbeats 4000000 in
theorem A_L_make_b762 (K : KT) {N : Nat} (hN : NT ≤ N) (Ln : Nat) (xs : Nat → Int32) (hX : KX K Ln xs)  : ∀ (k : Nat) (x2 : Int32) (x7 : Int32) (x11 : Int32) (x12 : Int32) (σ : Sg), AG K mL_make N (fun a : Int32 × Sg => (some (.int a.1), N, R0, a.2)) (J_L_make_b762 Ln xs   k x2 x7 x11 x12 σ) 762 [some (.ref 0), some (.retAddr 1), some (.int x2), none, some (.ref 141), none, none, some (.int x7), none, none, none, some (.int x11), some (.int x12), none, none, none] [] σ := by
  intro k
  induction k with
  | zero => intro x2 x7 x11 x12 σ; exact ag_none
  | succ k ih =>
    intro x2 x7 x11 x12 σ
    rw [J_L_make_b762]
    refine ag_iload_12 (q := 764) dL_make_762 rfl ?_
    refine ag_iload_11 (q := 766) dL_make_764 rfl ?_
    refine ag_icmp_ge (tgt := 834) (q := 769) dL_make_766 rfl rfl ?_ ?_
    · refine ag_iload_7 (q := 836) dL_make_834 rfl ?_
      refine ag_if_eq (tgt := 863) (q := 839) dL_make_836 rfl rfl ?_ ?_
      · refine ag_iconst (q := 864) (v := 0) dL_make_863 rfl (by decide) ?_
        exact ag_zretK dL_make_864 rfl (by decide) rfl
      refine ag_aload_0 (q := 840) dL_make_839 rfl ?_
      refine ag_callV_mI (q := 843) (av := []) (rest := []) dL_make_840 rfl lkL_40 (C_X7_fault (Nat.le_trans (by decide) hN)  _) (by decide) (Nat.le_of_ble_eq_true rfl) (Nat.lt_of_lt_of_le (by decide : 0 < NT) hN) (congrArg Prod.fst s_0) (by decide) (fun _ => rfl) (Nat.le_of_ble_eq_true rfl) rfl (fun r840 s840 e840 => ?_)
      refine ag_bipush (q := 845) (v := -4) dL_make_843 rfl (by decide) ?_
      refine ag_icmp_ne (tgt := 863) (q := 848) dL_make_845 rfl rfl ?_ ?_
      · refine ag_iconst (q := 864) (v := 0) dL_make_863 rfl (by decide) ?_
        exact ag_zretK dL_make_864 rfl (by decide) rfl
      refine ag_aload_0 (q := 849) dL_make_848 rfl ?_
      refine ag_callV_mI (q := 852) (av := []) (rest := []) dL_make_849 rfl lkL_43 (C_X7_lay (Nat.le_trans (by decide) hN)  _) (by decide) (Nat.le_of_ble_eq_true rfl) (Nat.lt_of_lt_of_le (by decide : 0 < NT) hN) (congrArg Prod.fst s_0) (by decide) (fun _ => rfl) (Nat.le_of_ble_eq_true rfl) rfl (fun r849 s849 e849 => ?_)
      refine ag_aload_4 (q := 854) dL_make_852 rfl ?_
      refine ag_iconst (q := 855) (v := 2) dL_make_854 rfl (by decide) ?_
      refine ag_ialdK (q := 856) (k := 2) dL_make_855 rfl (Nat.lt_of_lt_of_le (by decide : 141 < NT) hN) s_141 (by decide) (by decide) ?_
      refine ag_icmp_ne (tgt := 863) (q := 859) dL_make_856 rfl rfl ?_ ?_
      · refine ag_iconst (q := 864) (v := 0) dL_make_863 rfl (by decide) ?_
        exact ag_zretK dL_make_864 rfl (by decide) rfl
      refine ag_iconst (q := 860) (v := 1) dL_make_859 rfl (by decide) ?_
      refine ag_goto (q := 864) dL_make_860 rfl ?_
      exact ag_zretK dL_make_864 rfl (by decide) rfl
    refine ag_xload_1 (q := 770) dL_make_769 rfl ?_
    refine ag_iload_2 (q := 771) dL_make_770 rfl ?_
    refine ag_bipush (q := 773) (v := 11) dL_make_771 rfl (by decide) ?_
    refine ag_iadd (q := 774) dL_make_773 rfl ?_
    refine ag_callSX_pI hX (q := 777) (av := [.retAddr _, .int _]) (rest := []) dL_make_774 rfl lkL_21 (C_L_cell hN Ln xs (x2 + (11 : Int32)) _) (by decide) (Nat.le_of_ble_eq_true rfl) (Nat.le_of_ble_eq_true rfl) rfl (fun r774 e774 => ?_)
    refine ag_iload_12 (q := 779) dL_make_777 rfl ?_
    refine ag_ishr (q := 780) dL_make_779 rfl ?_
    refine ag_iconst (q := 781) (v := 1) dL_make_780 rfl (by decide) ?_
    refine ag_iand (q := 782) dL_make_781 rfl ?_
    refine ag_istore_13 (q := 784) dL_make_782 rfl (Nat.le_of_ble_eq_true rfl) rfl ?_
    refine ag_aload_4 (q := 786) dL_make_784 rfl ?_
    refine ag_bipush (q := 788) (v := 6) dL_make_786 rfl (by decide) ?_
    refine ag_dup2 (q := 789) dL_make_788 rfl rfl rfl ?_
    refine ag_ialdK (q := 790) (k := 6) dL_make_789 rfl (Nat.lt_of_lt_of_le (by decide : 141 < NT) hN) s_141 (by decide) (by decide) ?_
    refine ag_iload_13 (q := 792) dL_make_790 rfl ?_
    refine ag_iload_12 (q := 794) dL_make_792 rfl ?_
    refine ag_ishl (q := 795) dL_make_794 rfl ?_
    refine ag_ior (q := 796) dL_make_795 rfl ?_
    refine ag_iastK (q := 797) (k := 6) dL_make_796 rfl (Nat.lt_of_lt_of_le (by decide : 141 < NT) hN) s_141 (by decide) (by decide) ?_
    refine ag_aload_4 (q := 799) dL_make_797 rfl ?_
    refine ag_iconst (q := 800) (v := 5) dL_make_799 rfl (by decide) ?_
    refine ag_dup2 (q := 801) dL_make_800 rfl rfl rfl ?_
    refine ag_ialdK (q := 802) (k := 5) dL_make_801 rfl (Nat.lt_of_lt_of_le (by decide : 141 < NT) hN) s_141 (by decide) (by decide) ?_
    refine ag_iconst (q := 803) (v := 1) dL_make_802 rfl (by decide) ?_
    refine ag_iadd (q := 804) dL_make_803 rfl ?_
    refine ag_iastK (q := 805) (k := 5) dL_make_804 rfl (Nat.lt_of_lt_of_le (by decide : 141 < NT) hN) s_141 (by decide) (by decide) ?_
    refine ag_iload_7 (q := 807) dL_make_805 rfl ?_
    refine ag_if_eq (tgt := 825) (q := 810) dL_make_807 rfl rfl ?_ ?_
    · refine ag_iconst (q := 826) (v := 0) dL_make_825 rfl (by decide) ?_
      refine ag_istore_7 (q := 828) dL_make_826 rfl (Nat.le_of_ble_eq_true rfl) rfl ?_
      refine ag_iinc_12 (q := 831) (d := (1)) dL_make_828 rfl (Nat.le_of_ble_eq_true rfl) rfl (by decide) ?_
      refine ag_goto (q := 762) dL_make_831 rfl ?_
      refine ag_kill_13 ?_
      exact ih x2 (0 : Int32) x11 (x12 + (1)) (up (up σ 141 6 ((σ 141 6) ||| (((r774 >>> (x12 &&& 31)) &&& (1 : Int32)) <<< (x12 &&& 31)))) 141 5 (((up σ 141 6 ((σ 141 6) ||| (((r774 >>> (x12 &&& 31)) &&& (1 : Int32)) <<< (x12 &&& 31)))) 141 5) + (1 : Int32)))
    refine ag_aload_0 (q := 811) dL_make_810 rfl ?_
    refine ag_bipush (q := 813) (v := 115) dL_make_811 rfl (by decide) ?_
    refine ag_iload_13 (q := 815) dL_make_813 rfl ?_
    refine ag_callS_mI (q := 818) (av := [.ref _, .int _, .int _]) (rest := []) dL_make_815 rfl lkL_37 (C_L_one hN (115 : Int32) ((r774 >>> (x12 &&& 31)) &&& (1 : Int32)) _) (by decide) (Nat.le_of_ble_eq_true rfl) (fun _ => rfl) (Nat.le_of_ble_eq_true rfl) rfl (fun r815 s815 e815 => ?_)
    refine ag_if_eq (tgt := 825) (q := 821) dL_make_818 rfl rfl ?_ ?_
    · refine ag_iconst (q := 826) (v := 0) dL_make_825 rfl (by decide) ?_
      refine ag_istore_7 (q := 828) dL_make_826 rfl (Nat.le_of_ble_eq_true rfl) rfl ?_
      refine ag_iinc_12 (q := 831) (d := (1)) dL_make_828 rfl (Nat.le_of_ble_eq_true rfl) rfl (by decide) ?_
      refine ag_goto (q := 762) dL_make_831 rfl ?_
      refine ag_kill_13 ?_
      exact ih x2 (0 : Int32) x11 (x12 + (1)) s815
    refine ag_iconst (q := 822) (v := 1) dL_make_821 rfl (by decide) ?_
    refine ag_goto (q := 826) dL_make_822 rfl ?_
    refine ag_istore_7 (q := 828) dL_make_826 rfl (Nat.le_of_ble_eq_true rfl) rfl ?_
    refine ag_iinc_12 (q := 831) (d := (1)) dL_make_828 rfl (Nat.le_of_ble_eq_true rfl) rfl (by decide) ?_
    refine ag_goto (q := 762) dL_make_831 rfl ?_
    refine ag_kill_13 ?_
    exact ih x2 (1 : Int32) x11 (x12 + (1)) s815
def J_L_make_b695 (Ln : Nat) (xs : Nat → Int32)  (x2 : Int32) (x6 : Int32) (x7 : Int32) (σ : Sg) : Option (Int32 × Sg) :=
  (if ((x6 >>> ((18 : Int32) &&& 31)) &&& (1 : Int32)) = (1 : Int32) then (bd1 (J_L_low (x6 >>> ((19 : Int32) &&& 31)) (9 : Int32) σ) fun r717 => (if x7 = 0 then (bd1 (J_L_low (x6 >>> ((23 : Int32) &&& 31)) (10 : Int32) (up σ 141 4 ((1 : Int32) + r717))) fun r754 => (J_L_make_b762 Ln xs   FU x2 (0 : Int32) r754 (0 : Int32) (up σ 141 4 ((1 : Int32) + r717)))) else (bd2 (J_L_one (104 : Int32) ((up σ 141 4 ((1 : Int32) + r717)) 141 4) (up σ 141 4 ((1 : Int32) + r717))) fun r734 s734 => (if r734 = 0 then (bd1 (J_L_low (x6 >>> ((23 : Int32) &&& 31)) (10 : Int32) s734) fun r754 => (J_L_make_b762 Ln xs   FU x2 (0 : Int32) r754 (0 : Int32) s734)) else (bd1 (J_L_low (x6 >>> ((23 : Int32) &&& 31)) (10 : Int32) s734) fun r754 => (J_L_make_b762 Ln xs   FU x2 (1 : Int32) r754 (0 : Int32) s734)))))) else (bd1 (J_L_low (x6 >>> ((23 : Int32) &&& 31)) (10 : Int32) σ) fun r754 => (J_L_make_b762 Ln xs   FU x2 x7 r754 (0 : Int32) σ)))
set_option maxHeartbeats 4000000 in
theorem A_L_make_b695 (K : KT) {N : Nat} (hN : NT ≤ N) (Ln : Nat) (xs : Nat → Int32) (hX : KX K Ln xs)  (x2 : Int32) (x6 : Int32) (x7 : Int32) (σ : Sg) : AG K mL_make N (fun a : Int32 × Sg => (some (.int a.1), N, R0, a.2)) (J_L_make_b695 Ln xs   x2 x6 x7 σ) 695 [some (.ref 0), some (.retAddr 1), some (.int x2), none, some (.ref 141), none, some (.int x6), some (.int x7), none, none, none, none, none, none, none, none] [] σ := by
  unfold J_L_make_b695
  refine ag_iload_6 (q := 697) dL_make_695 rfl ?_
  refine ag_bipush (q := 699) (v := 18) dL_make_697 rfl (by decide) ?_
  refine ag_ishr (q := 700) dL_make_699 rfl ?_
  refine ag_iconst (q := 701) (v := 1) dL_make_700 rfl (by decide) ?_
  refine ag_iand (q := 702) dL_make_701 rfl ?_
  refine ag_iconst (q := 703) (v := 1) dL_make_702 rfl (by decide) ?_
  refine ag_icmp_ne (tgt := 747) (q := 706) dL_make_703 rfl rfl ?_ ?_
  · refine ag_iload_6 (q := 749) dL_make_747 rfl ?_
    refine ag_bipush (q := 751) (v := 23) dL_make_749 rfl (by decide) ?_
    refine ag_ishr (q := 752) dL_make_751 rfl ?_
    refine ag_bipush (q := 754) (v := 10) dL_make_752 rfl (by decide) ?_
    refine ag_callS_pI (q := 757) (av := [.int _, .int _]) (rest := []) dL_make_754 rfl lkL_29 (C_L_low hN (x6 >>> ((23 : Int32) &&& 31)) (10 : Int32) _) (by decide) (Nat.le_of_ble_eq_true rfl) (fun _ => rfl) (Nat.le_of_ble_eq_true rfl) rfl (fun r754 e754 => ?_)
    refine ag_istore_11 (q := 759) dL_make_757 rfl (Nat.le_of_ble_eq_true rfl) rfl ?_
    refine ag_iconst (q := 760) (v := 0) dL_make_759 rfl (by decide) ?_
    refine ag_istore_12 (q := 762) dL_make_760 rfl (Nat.le_of_ble_eq_true rfl) rfl ?_
    refine ag_kill_6 ?_
    exact A_L_make_b762 K hN Ln xs hX   FU x2 x7 r754 (0 : Int32) σ
  refine ag_aload_4 (q := 708) dL_make_706 rfl ?_
  refine ag_iconst (q := 709) (v := 4) dL_make_708 rfl (by decide) ?_
  refine ag_iconst (q := 710) (v := 1) dL_make_709 rfl (by decide) ?_
  refine ag_iload_6 (q := 712) dL_make_710 rfl ?_
  refine ag_bipush (q := 714) (v := 19) dL_make_712 rfl (by decide) ?_
  refine ag_ishr (q := 715) dL_make_714 rfl ?_
  refine ag_bipush (q := 717) (v := 9) dL_make_715 rfl (by decide) ?_
  refine ag_callS_pI (q := 720) (av := [.int _, .int _]) (rest := [.int _, .int _, .ref _]) dL_make_717 rfl lkL_29 (C_L_low hN (x6 >>> ((19 : Int32) &&& 31)) (9 : Int32) _) (by decide) (Nat.le_of_ble_eq_true rfl) (fun _ => rfl) (Nat.le_of_ble_eq_true rfl) rfl (fun r717 e717 => ?_)
  refine ag_iadd (q := 721) dL_make_720 rfl ?_
  refine ag_iastK (q := 722) (k := 4) dL_make_721 rfl (Nat.lt_of_lt_of_le (by decide : 141 < NT) hN) s_141 (by decide) (by decide) ?_
  refine ag_iload_7 (q := 724) dL_make_722 rfl ?_
  refine ag_if_eq (tgt := 744) (q := 727) dL_make_724 rfl rfl ?_ ?_
  · refine ag_iconst (q := 745) (v := 0) dL_make_744 rfl (by decide) ?_
    refine ag_istore_7 (q := 747) dL_make_745 rfl (Nat.le_of_ble_eq_true rfl) rfl ?_
    refine ag_iload_6 (q := 749) dL_make_747 rfl ?_
    refine ag_bipush (q := 751) (v := 23) dL_make_749 rfl (by decide) ?_
    refine ag_ishr (q := 752) dL_make_751 rfl ?_
    refine ag_bipush (q := 754) (v := 10) dL_make_752 rfl (by decide) ?_
    refine ag_callS_pI (q := 757) (av := [.int _, .int _]) (rest := []) dL_make_754 rfl lkL_29 (C_L_low hN (x6 >>> ((23 : Int32) &&& 31)) (10 : Int32) _) (by decide) (Nat.le_of_ble_eq_true rfl) (fun _ => rfl) (Nat.le_of_ble_eq_true rfl) rfl (fun r754 e754 => ?_)
    refine ag_istore_11 (q := 759) dL_make_757 rfl (Nat.le_of_ble_eq_true rfl) rfl ?_
    refine ag_iconst (q := 760) (v := 0) dL_make_759 rfl (by decide) ?_
    refine ag_istore_12 (q := 762) dL_make_760 rfl (Nat.le_of_ble_eq_true rfl) rfl ?_
    refine ag_kill_6 ?_
    exact A_L_make_b762 K hN Ln xs hX   FU x2 (0 : Int32) r754 (0 : Int32) (up σ 141 4 ((1 : Int32) + r717))
  refine ag_aload_0 (q := 728) dL_make_727 rfl ?_
  refine ag_bipush (q := 730) (v := 104) dL_make_728 rfl (by decide) ?_
  refine ag_aload_4 (q := 732) dL_make_730 rfl ?_
  refine ag_iconst (q := 733) (v := 4) dL_make_732 rfl (by decide) ?_
  refine ag_ialdK (q := 734) (k := 4) dL_make_733 rfl (Nat.lt_of_lt_of_le (by decide : 141 < NT) hN) s_141 (by decide) (by decide) ?_
  refine ag_callS_mI (q := 737) (av := [.ref _, .int _, .int _]) (rest := []) dL_make_734 rfl lkL_37 (C_L_one hN (104 : Int32) ((up σ 141 4 ((1 : Int32) + r717)) 141 4) _) (by decide) (Nat.le_of_ble_eq_true rfl) (fun _ => rfl) (Nat.le_of_ble_eq_true rfl) rfl (fun r734 s734 e734 => ?_)
  refine ag_if_eq (tgt := 744) (q := 740) dL_make_737 rfl rfl ?_ ?_
  · refine ag_iconst (q := 745) (v := 0) dL_make_744 rfl (by decide) ?_
    refine ag_istore_7 (q := 747) dL_make_745 rfl (Nat.le_of_ble_eq_true rfl) rfl ?_
    refine ag_iload_6 (q := 749) dL_make_747 rfl ?_
    refine ag_bipush (q := 751) (v := 23) dL_make_749 rfl (by decide) ?_
    refine ag_ishr (q := 752) dL_make_751 rfl ?_
    refine ag_bipush (q := 754) (v := 10) dL_make_752 rfl (by decide) ?_
    refine ag_callS_pI (q := 757) (av := [.int _, .int _]) (rest := []) dL_make_754 rfl lkL_29 (C_L_low hN (x6 >>> ((23 : Int32) &&& 31)) (10 : Int32) _) (by decide) (Nat.le_of_ble_eq_true rfl) (fun _ => rfl) (Nat.le_of_ble_eq_true rfl) rfl (fun r754 e754 => ?_)
    refine ag_istore_11 (q := 759) dL_make_757 rfl (Nat.le_of_ble_eq_true rfl) rfl ?_
    refine ag_iconst (q := 760) (v := 0) dL_make_759 rfl (by decide) ?_
    refine ag_istore_12 (q := 762) dL_make_760 rfl (Nat.le_of_ble_eq_true rfl) rfl ?_
    refine ag_kill_6 ?_
    exact A_L_make_b762 K hN Ln xs hX   FU x2 (0 : Int32) r754 (0 : Int32) s734
  refine ag_iconst (q := 741) (v := 1) dL_make_740 rfl (by decide) ?_
  refine ag_goto (q := 745) dL_make_741 rfl ?_
  refine ag_istore_7 (q := 747) dL_make_745 rfl (Nat.le_of_ble_eq_true rfl) rfl ?_
  refine ag_iload_6 (q := 749) dL_make_747 rfl ?_
  refine ag_bipush (q := 751) (v := 23) dL_make_749 rfl (by decide) ?_
  refine ag_ishr (q := 752) dL_make_751 rfl ?_
  refine ag_bipush (q := 754) (v := 10) dL_make_752 rfl (by decide) ?_
  refine ag_callS_pI (q := 757) (av := [.int _, .int _]) (rest := []) dL_make_754 rfl lkL_29 (C_L_low hN (x6 >>> ((23 : Int32) &&& 31)) (10 : Int32) _) (by decide) (Nat.le_of_ble_eq_true rfl) (fun _ => rfl) (Nat.le_of_ble_eq_true rfl) rfl (fun r754 e754 => ?_)
  refine ag_istore_11 (q := 759) dL_make_757 rfl (Nat.le_of_ble_eq_true rfl) rfl ?_
  refine ag_iconst (q := 760) (v := 0) dL_make_759 rfl (by decide) ?_
  refine ag_istore_12 (q := 762) dL_make_760 rfl (Nat.le_of_ble_eq_true rfl) rfl ?_
  refine ag_kill_6 ?_
  exact A_L_make_b762 K hN Ln xs hX   FU x2 (1 : Int32) r754 (0 : Int32) s734
def J_L_make_b462 (Ln : Nat) (xs : Nat → Int32)  (y375 : Int32 → Int32 → Int32 → Int32 → Int32 → Sg → Option (Int32 × Sg)) : Nat → Int32 → Int32 → Int32 → Int32 → Int32 → Int32 → Int32 → Int32 → Int32 → Sg → Option (Int32 × Sg)
  | 0, _, _, _, _, _, _, _, _, _, _ => none
  | k + 1, x2, x6, x7, x9, x10, x11, x12, x13, x14, σ =>
    (if (σ 141 2) ≤ x14 then (if x13 = 0 then (y375 x2 x6 x7 x9 (x10 + (1)) σ) else (if inb ((13 : Int32) + (σ 141 2)) 22 = true then (if inb ((37 : Int32) + ((up (up σ 141 ((13 : Int32) + (σ 141 2)).toNatClampNeg ((x11 >>> ((6 : Int32) &&& 31)) &&& (3 : Int32))) 141 21 (((up σ 141 ((13 : Int32) + (σ 141 2)).toNatClampNeg ((x11 >>> ((6 : Int32) &&& 31)) &&& (3 : Int32))) 141 21) ||| (((x11 >>> ((8 : Int32) &&& 31)) &&& (1 : Int32)) <<< (((up σ 141 ((13 : Int32) + (σ 141 2)).toNatClampNeg ((x11 >>> ((6 : Int32) &&& 31)) &&& (3 : Int32))) 141 2) &&& 31)))) 141 2)) 54 = true then (if x7 = 0 then (y375 x2 x6 (0 : Int32) x9 (x10 + (1)) (up (up (up (up σ 141 ((13 : Int32) + (σ 141 2)).toNatClampNeg ((x11 >>> ((6 : Int32) &&& 31)) &&& (3 : Int32))) 141 21 (((up σ 141 ((13 : Int32) + (σ 141 2)).toNatClampNeg ((x11 >>> ((6 : Int32) &&& 31)) &&& (3 : Int32))) 141 21) ||| (((x11 >>> ((8 : Int32) &&& 31)) &&& (1 : Int32)) <<< (((up σ 141 ((13 : Int32) + (σ 141 2)).toNatClampNeg ((x11 >>> ((6 : Int32) &&& 31)) &&& (3 : Int32))) 141 2) &&& 31)))) 142 ((37 : Int32) + ((up (up σ 141 ((13 : Int32) + (σ 141 2)).toNatClampNeg ((x11 >>> ((6 : Int32) &&& 31)) &&& (3 : Int32))) 141 21 (((up σ 141 ((13 : Int32) + (σ 141 2)).toNatClampNeg ((x11 >>> ((6 : Int32) &&& 31)) &&& (3 : Int32))) 141 21) ||| (((x11 >>> ((8 : Int32) &&& 31)) &&& (1 : Int32)) <<< (((up σ 141 ((13 : Int32) + (σ 141 2)).toNatClampNeg ((x11 >>> ((6 : Int32) &&& 31)) &&& (3 : Int32))) 141 2) &&& 31)))) 141 2)).toNatClampNeg x12) 141 2 (((up (up (up σ 141 ((13 : Int32) + (σ 141 2)).toNatClampNeg ((x11 >>> ((6 : Int32) &&& 31)) &&& (3 : Int32))) 141 21 (((up σ 141 ((13 : Int32) + (σ 141 2)).toNatClampNeg ((x11 >>> ((6 : Int32) &&& 31)) &&& (3 : Int32))) 141 21) ||| (((x11 >>> ((8 : Int32) &&& 31)) &&& (1 : Int32)) <<< (((up σ 141 ((13 : Int32) + (σ 141 2)).toNatClampNeg ((x11 >>> ((6 : Int32) &&& 31)) &&& (3 : Int32))) 141 2) &&& 31)))) 142 ((37 : Int32) + ((up (up σ 141 ((13 : Int32) + (σ 141 2)).toNatClampNeg ((x11 >>> ((6 : Int32) &&& 31)) &&& (3 : Int32))) 141 21 (((up σ 141 ((13 : Int32) + (σ 141 2)).toNatClampNeg ((x11 >>> ((6 : Int32) &&& 31)) &&& (3 : Int32))) 141 21) ||| (((x11 >>> ((8 : Int32) &&& 31)) &&& (1 : Int32)) <<< (((up σ 141 ((13 : Int32) + (σ 141 2)).toNatClampNeg ((x11 >>> ((6 : Int32) &&& 31)) &&& (3 : Int32))) 141 2) &&& 31)))) 141 2)).toNatClampNeg x12) 141 2) + (1 : Int32)))) else (bd2 (J_X7_write (98 : Int32) (up (up (up (up σ 141 ((13 : Int32) + (σ 141 2)).toNatClampNeg ((x11 >>> ((6 : Int32) &&& 31)) &&& (3 : Int32))) 141 21 (((up σ 141 ((13 : Int32) + (σ 141 2)).toNatClampNeg ((x11 >>> ((6 : Int32) &&& 31)) &&& (3 : Int32))) 141 21) ||| (((x11 >>> ((8 : Int32) &&& 31)) &&& (1 : Int32)) <<< (((up σ 141 ((13 : Int32) + (σ 141 2)).toNatClampNeg ((x11 >>> ((6 : Int32) &&& 31)) &&& (3 : Int32))) 141 2) &&& 31)))) 142 ((37 : Int32) + ((up (up σ 141 ((13 : Int32) + (σ 141 2)).toNatClampNeg ((x11 >>> ((6 : Int32) &&& 31)) &&& (3 : Int32))) 141 21 (((up σ 141 ((13 : Int32) + (σ 141 2)).toNatClampNeg ((x11 >>> ((6 : Int32) &&& 31)) &&& (3 : Int32))) 141 21) ||| (((x11 >>> ((8 : Int32) &&& 31)) &&& (1 : Int32)) <<< (((up σ 141 ((13 : Int32) + (σ 141 2)).toNatClampNeg ((x11 >>> ((6 : Int32) &&& 31)) &&& (3 : Int32))) 141 2) &&& 31)))) 141 2)).toNatClampNeg x12) 141 2 (((up (up (up σ 141 ((13 : Int32) + (σ 141 2)).toNatClampNeg ((x11 >>> ((6 : Int32) &&& 31)) &&& (3 : Int32))) 141 21 (((up σ 141 ((13 : Int32) + (σ 141 2)).toNatClampNeg ((x11 >>> ((6 : Int32) &&& 31)) &&& (3 : Int32))) 141 21) ||| (((x11 >>> ((8 : Int32) &&& 31)) &&& (1 : Int32)) <<< (((up σ 141 ((13 : Int32) + (σ 141 2)).toNatClampNeg ((x11 >>> ((6 : Int32) &&& 31)) &&& (3 : Int32))) 141 2) &&& 31)))) 142 ((37 : Int32) + ((up (up σ 141 ((13 : Int32) + (σ 141 2)).toNatClampNeg ((x11 >>> ((6 : Int32) &&& 31)) &&& (3 : Int32))) 141 21 (((up σ 141 ((13 : Int32) + (σ 141 2)).toNatClampNeg ((x11 >>> ((6 : Int32) &&& 31)) &&& (3 : Int32))) 141 21) ||| (((x11 >>> ((8 : Int32) &&& 31)) &&& (1 : Int32)) <<< (((up σ 141 ((13 : Int32) + (σ 141 2)).toNatClampNeg ((x11 >>> ((6 : Int32) &&& 31)) &&& (3 : Int32))) 141 2) &&& 31)))) 141 2)).toNatClampNeg x12) 141 2) + (1 : Int32)))) fun r580 s580 => (if r580 ≤ 0 then (y375 x2 x6 (0 : Int32) x9 (x10 + (1)) s580) else (bd2 (J_L_number ((x11 >>> ((6 : Int32) &&& 31)) &&& (3 : Int32)) (44 : Int32) s580) fun r591 s591 => (if r591 = 0 then (y375 x2 x6 (0 : Int32) x9 (x10 + (1)) s591) else (bd2 (J_L_number ((x11 >>> ((8 : Int32) &&& 31)) &&& (1 : Int32)) (44 : Int32) s591) fun r602 s602 => (if r602 = 0 then (y375 x2 x6 (0 : Int32) x9 (x10 + (1)) s602) else (bd2 (J_L_number x12 (59 : Int32) s602) fun r613 s613 => (if r613 = 0 then (y375 x2 x6 (0 : Int32) x9 (x10 + (1)) s613) else (y375 x2 x6 (1 : Int32) x9 (x10 + (1)) s613)))))))))) else none) else none)) else (if x13 = 0 then (J_L_make_b462 Ln xs  y375 k x2 x6 x7 x9 x10 x11 x12 (0 : Int32) (x14 + (1)) σ) else (if inb ((37 : Int32) + x14) 54 = true then (if (σ 142 ((37 : Int32) + x14).toNatClampNeg) = x12 then (J_L_make_b462 Ln xs  y375 k x2 x6 x7 x9 x10 x11 x12 (0 : Int32) (x14 + (1)) σ) else (J_L_make_b462 Ln xs  y375 k x2 x6 x7 x9 x10 x11 x12 (1 : Int32) (x14 + (1)) σ)) else none)))
set_option maxHeartbeats 4000000 in
theorem A_L_make_b462 (K : KT) {N : Nat} (hN : NT ≤ N) (Ln : Nat) (xs : Nat → Int32) (hX : KX K Ln xs)  (y375 : Int32 → Int32 → Int32 → Int32 → Int32 → Sg → Option (Int32 × Sg)) (hy375 : ∀ (x2 : Int32) (x6 : Int32) (x7 : Int32) (x9 : Int32) (x10 : Int32) (σ : Sg), AG K mL_make N (fun a : Int32 × Sg => (some (.int a.1), N, R0, a.2)) (y375 x2 x6 x7 x9 x10 σ) 375 [some (.ref 0), some (.retAddr 1), some (.int x2), none, some (.ref 141), some (.ref 142), some (.int x6), some (.int x7), none, some (.int x9), some (.int x10), none, none, none, none, none] [] σ) : ∀ (k : Nat) (x2 : Int32) (x6 : Int32) (x7 : Int32) (x9 : Int32) (x10 : Int32) (x11 : Int32) (x12 : Int32) (x13 : Int32) (x14 : Int32) (σ : Sg), AG K mL_make N (fun a : Int32 × Sg => (some (.int a.1), N, R0, a.2)) (J_L_make_b462 Ln xs  y375 k x2 x6 x7 x9 x10 x11 x12 x13 x14 σ) 462 [some (.ref 0), some (.retAddr 1), some (.int x2), none, some (.ref 141), some (.ref 142), some (.int x6), some (.int x7), none, some (.int x9), some (.int x10), some (.int x11), some (.int x12), some (.int x13), some (.int x14), none] [] σ := by
  intro k
  induction k with
  | zero => intro x2 x6 x7 x9 x10 x11 x12 x13 x14 σ; exact ag_none
  | succ k ih =>
    intro x2 x6 x7 x9 x10 x11 x12 x13 x14 σ
    rw [J_L_make_b462]
    refine ag_iload_14 (q := 464) dL_make_462 rfl ?_
    refine ag_aload_4 (q := 466) dL_make_464 rfl ?_
    refine ag_iconst (q := 467) (v := 2) dL_make_466 rfl (by decide) ?_
    refine ag_ialdK (q := 468) (k := 2) dL_make_467 rfl (Nat.lt_of_lt_of_le (by decide : 141 < NT) hN) s_141 (by decide) (by decide) ?_
    refine ag_icmp_ge (tgt := 502) (q := 471) dL_make_468 rfl rfl ?_ ?_
    · refine ag_iload_13 (q := 504) dL_make_502 rfl ?_
      refine ag_if_eq (tgt := 626) (q := 507) dL_make_504 rfl rfl ?_ ?_
      · refine ag_iinc_10 (q := 629) (d := (1)) dL_make_626 rfl (Nat.le_of_ble_eq_true rfl) rfl (by decide) ?_
        refine ag_goto (q := 375) dL_make_629 rfl ?_
        refine ag_kill_11 ?_
        refine ag_kill_12 ?_
        refine ag_kill_13 ?_
        refine ag_kill_14 ?_
        exact hy375 x2 x6 x7 x9 (x10 + (1)) σ
      refine ag_iload_11 (q := 509) dL_make_507 rfl ?_
      refine ag_bipush (q := 511) (v := 6) dL_make_509 rfl (by decide) ?_
      refine ag_ishr (q := 512) dL_make_511 rfl ?_
      refine ag_iconst (q := 513) (v := 3) dL_make_512 rfl (by decide) ?_
      refine ag_iand (q := 514) dL_make_513 rfl ?_
      refine ag_istore_14 (q := 516) dL_make_514 rfl (Nat.le_of_ble_eq_true rfl) rfl ?_
      refine ag_iload_11 (q := 518) dL_make_516 rfl ?_
      refine ag_bipush (q := 520) (v := 8) dL_make_518 rfl (by decide) ?_
      refine ag_ishr (q := 521) dL_make_520 rfl ?_
      refine ag_iconst (q := 522) (v := 1) dL_make_521 rfl (by decide) ?_
      refine ag_iand (q := 523) dL_make_522 rfl ?_
      refine ag_istore_15 (q := 525) dL_make_523 rfl (Nat.le_of_ble_eq_true rfl) rfl ?_
      refine ag_aload_4 (q := 527) dL_make_525 rfl ?_
      refine ag_bipush (q := 529) (v := 13) dL_make_527 rfl (by decide) ?_
      refine ag_aload_4 (q := 531) dL_make_529 rfl ?_
      refine ag_iconst (q := 532) (v := 2) dL_make_531 rfl (by decide) ?_
      refine ag_ialdK (q := 533) (k := 2) dL_make_532 rfl (Nat.lt_of_lt_of_le (by decide : 141 < NT) hN) s_141 (by decide) (by decide) ?_
      refine ag_iadd (q := 534) dL_make_533 rfl ?_
      refine ag_iload_14 (q := 536) dL_make_534 rfl ?_
      refine ag_iast (q := 537) dL_make_536 rfl (Nat.lt_of_lt_of_le (by decide : 141 < NT) hN) s_141 ?_
      refine ag_aload_4 (q := 539) dL_make_537 rfl ?_
      refine ag_bipush (q := 541) (v := 21) dL_make_539 rfl (by decide) ?_
      refine ag_dup2 (q := 542) dL_make_541 rfl rfl rfl ?_
      refine ag_ialdK (q := 543) (k := 21) dL_make_542 rfl (Nat.lt_of_lt_of_le (by decide : 141 < NT) hN) s_141 (by decide) (by decide) ?_
      refine ag_iload_15 (q := 545) dL_make_543 rfl ?_
      refine ag_aload_4 (q := 547) dL_make_545 rfl ?_
      refine ag_iconst (q := 548) (v := 2) dL_make_547 rfl (by decide) ?_
      refine ag_ialdK (q := 549) (k := 2) dL_make_548 rfl (Nat.lt_of_lt_of_le (by decide : 141 < NT) hN) s_141 (by decide) (by decide) ?_
      refine ag_ishl (q := 550) dL_make_549 rfl ?_
      refine ag_ior (q := 551) dL_make_550 rfl ?_
      refine ag_iastK (q := 552) (k := 21) dL_make_551 rfl (Nat.lt_of_lt_of_le (by decide : 141 < NT) hN) s_141 (by decide) (by decide) ?_
      refine ag_aload_5 (q := 554) dL_make_552 rfl ?_
      refine ag_bipush (q := 556) (v := 37) dL_make_554 rfl (by decide) ?_
      refine ag_aload_4 (q := 558) dL_make_556 rfl ?_
      refine ag_iconst (q := 559) (v := 2) dL_make_558 rfl (by decide) ?_
      refine ag_ialdK (q := 560) (k := 2) dL_make_559 rfl (Nat.lt_of_lt_of_le (by decide : 141 < NT) hN) s_141 (by decide) (by decide) ?_
      refine ag_iadd (q := 561) dL_make_560 rfl ?_
      refine ag_iload_12 (q := 563) dL_make_561 rfl ?_
      refine ag_iast (q := 564) dL_make_563 rfl (Nat.lt_of_lt_of_le (by decide : 142 < NT) hN) s_142 ?_
      refine ag_aload_4 (q := 566) dL_make_564 rfl ?_
      refine ag_iconst (q := 567) (v := 2) dL_make_566 rfl (by decide) ?_
      refine ag_dup2 (q := 568) dL_make_567 rfl rfl rfl ?_
      refine ag_ialdK (q := 569) (k := 2) dL_make_568 rfl (Nat.lt_of_lt_of_le (by decide : 141 < NT) hN) s_141 (by decide) (by decide) ?_
      refine ag_iconst (q := 570) (v := 1) dL_make_569 rfl (by decide) ?_
      refine ag_iadd (q := 571) dL_make_570 rfl ?_
      refine ag_iastK (q := 572) (k := 2) dL_make_571 rfl (Nat.lt_of_lt_of_le (by decide : 141 < NT) hN) s_141 (by decide) (by decide) ?_
      refine ag_iload_7 (q := 574) dL_make_572 rfl ?_
      refine ag_if_eq (tgt := 623) (q := 577) dL_make_574 rfl rfl ?_ ?_
      · refine ag_iconst (q := 624) (v := 0) dL_make_623 rfl (by decide) ?_
        refine ag_istore_7 (q := 626) dL_make_624 rfl (Nat.le_of_ble_eq_true rfl) rfl ?_
        refine ag_iinc_10 (q := 629) (d := (1)) dL_make_626 rfl (Nat.le_of_ble_eq_true rfl) rfl (by decide) ?_
        refine ag_goto (q := 375) dL_make_629 rfl ?_
        refine ag_kill_11 ?_
        refine ag_kill_12 ?_
        refine ag_kill_13 ?_
        refine ag_kill_14 ?_
        refine ag_kill_15 ?_
        exact hy375 x2 x6 (0 : Int32) x9 (x10 + (1)) (up (up (up (up σ 141 ((13 : Int32) + (σ 141 2)).toNatClampNeg ((x11 >>> ((6 : Int32) &&& 31)) &&& (3 : Int32))) 141 21 (((up σ 141 ((13 : Int32) + (σ 141 2)).toNatClampNeg ((x11 >>> ((6 : Int32) &&& 31)) &&& (3 : Int32))) 141 21) ||| (((x11 >>> ((8 : Int32) &&& 31)) &&& (1 : Int32)) <<< (((up σ 141 ((13 : Int32) + (σ 141 2)).toNatClampNeg ((x11 >>> ((6 : Int32) &&& 31)) &&& (3 : Int32))) 141 2) &&& 31)))) 142 ((37 : Int32) + ((up (up σ 141 ((13 : Int32) + (σ 141 2)).toNatClampNeg ((x11 >>> ((6 : Int32) &&& 31)) &&& (3 : Int32))) 141 21 (((up σ 141 ((13 : Int32) + (σ 141 2)).toNatClampNeg ((x11 >>> ((6 : Int32) &&& 31)) &&& (3 : Int32))) 141 21) ||| (((x11 >>> ((8 : Int32) &&& 31)) &&& (1 : Int32)) <<< (((up σ 141 ((13 : Int32) + (σ 141 2)).toNatClampNeg ((x11 >>> ((6 : Int32) &&& 31)) &&& (3 : Int32))) 141 2) &&& 31)))) 141 2)).toNatClampNeg x12) 141 2 (((up (up (up σ 141 ((13 : Int32) + (σ 141 2)).toNatClampNeg ((x11 >>> ((6 : Int32) &&& 31)) &&& (3 : Int32))) 141 21 (((up σ 141 ((13 : Int32) + (σ 141 2)).toNatClampNeg ((x11 >>> ((6 : Int32) &&& 31)) &&& (3 : Int32))) 141 21) ||| (((x11 >>> ((8 : Int32) &&& 31)) &&& (1 : Int32)) <<< (((up σ 141 ((13 : Int32) + (σ 141 2)).toNatClampNeg ((x11 >>> ((6 : Int32) &&& 31)) &&& (3 : Int32))) 141 2) &&& 31)))) 142 ((37 : Int32) + ((up (up σ 141 ((13 : Int32) + (σ 141 2)).toNatClampNeg ((x11 >>> ((6 : Int32) &&& 31)) &&& (3 : Int32))) 141 21 (((up σ 141 ((13 : Int32) + (σ 141 2)).toNatClampNeg ((x11 >>> ((6 : Int32) &&& 31)) &&& (3 : Int32))) 141 21) ||| (((x11 >>> ((8 : Int32) &&& 31)) &&& (1 : Int32)) <<< (((up σ 141 ((13 : Int32) + (σ 141 2)).toNatClampNeg ((x11 >>> ((6 : Int32) &&& 31)) &&& (3 : Int32))) 141 2) &&& 31)))) 141 2)).toNatClampNeg x12) 141 2) + (1 : Int32)))
      refine ag_aload_0 (q := 578) dL_make_577 rfl ?_
      refine ag_bipush (q := 580) (v := 98) dL_make_578 rfl (by decide) ?_
      refine ag_callV_mI (q := 583) (av := [.int _]) (rest := []) dL_make_580 rfl lkL_9 (C_X7_write (Nat.le_trans (by decide) hN) (98 : Int32) _) (by decide) (Nat.le_of_ble_eq_true rfl) (Nat.lt_of_lt_of_le (by decide : 0 < NT) hN) (congrArg Prod.fst s_0) (by decide) (fun _ => rfl) (Nat.le_of_ble_eq_true rfl) rfl (fun r580 s580 e580 => ?_)
      refine ag_if_le (tgt := 623) (q := 586) dL_make_583 rfl rfl ?_ ?_
      · refine ag_iconst (q := 624) (v := 0) dL_make_623 rfl (by decide) ?_
        refine ag_istore_7 (q := 626) dL_make_624 rfl (Nat.le_of_ble_eq_true rfl) rfl ?_
        refine ag_iinc_10 (q := 629) (d := (1)) dL_make_626 rfl (Nat.le_of_ble_eq_true rfl) rfl (by decide) ?_
        refine ag_goto (q := 375) dL_make_629 rfl ?_
        refine ag_kill_11 ?_
        refine ag_kill_12 ?_
        refine ag_kill_13 ?_
        refine ag_kill_14 ?_
        refine ag_kill_15 ?_
        exact hy375 x2 x6 (0 : Int32) x9 (x10 + (1)) s580
      refine ag_aload_0 (q := 587) dL_make_586 rfl ?_
      refine ag_iload_14 (q := 589) dL_make_587 rfl ?_
      refine ag_bipush (q := 591) (v := 44) dL_make_589 rfl (by decide) ?_
      refine ag_callS_mI (q := 594) (av := [.ref _, .int _, .int _]) (rest := []) dL_make_591 rfl lkL_15 (C_L_number hN ((x11 >>> ((6 : Int32) &&& 31)) &&& (3 : Int32)) (44 : Int32) _) (by decide) (Nat.le_of_ble_eq_true rfl) (fun _ => rfl) (Nat.le_of_ble_eq_true rfl) rfl (fun r591 s591 e591 => ?_)
      refine ag_if_eq (tgt := 623) (q := 597) dL_make_594 rfl rfl ?_ ?_
      · refine ag_iconst (q := 624) (v := 0) dL_make_623 rfl (by decide) ?_
        refine ag_istore_7 (q := 626) dL_make_624 rfl (Nat.le_of_ble_eq_true rfl) rfl ?_
        refine ag_iinc_10 (q := 629) (d := (1)) dL_make_626 rfl (Nat.le_of_ble_eq_true rfl) rfl (by decide) ?_
        refine ag_goto (q := 375) dL_make_629 rfl ?_
        refine ag_kill_11 ?_
        refine ag_kill_12 ?_
        refine ag_kill_13 ?_
        refine ag_kill_14 ?_
        refine ag_kill_15 ?_
        exact hy375 x2 x6 (0 : Int32) x9 (x10 + (1)) s591
      refine ag_aload_0 (q := 598) dL_make_597 rfl ?_
      refine ag_iload_15 (q := 600) dL_make_598 rfl ?_
      refine ag_bipush (q := 602) (v := 44) dL_make_600 rfl (by decide) ?_
      refine ag_callS_mI (q := 605) (av := [.ref _, .int _, .int _]) (rest := []) dL_make_602 rfl lkL_15 (C_L_number hN ((x11 >>> ((8 : Int32) &&& 31)) &&& (1 : Int32)) (44 : Int32) _) (by decide) (Nat.le_of_ble_eq_true rfl) (fun _ => rfl) (Nat.le_of_ble_eq_true rfl) rfl (fun r602 s602 e602 => ?_)
      refine ag_if_eq (tgt := 623) (q := 608) dL_make_605 rfl rfl ?_ ?_
      · refine ag_iconst (q := 624) (v := 0) dL_make_623 rfl (by decide) ?_
        refine ag_istore_7 (q := 626) dL_make_624 rfl (Nat.le_of_ble_eq_true rfl) rfl ?_
        refine ag_iinc_10 (q := 629) (d := (1)) dL_make_626 rfl (Nat.le_of_ble_eq_true rfl) rfl (by decide) ?_
        refine ag_goto (q := 375) dL_make_629 rfl ?_
        refine ag_kill_11 ?_
        refine ag_kill_12 ?_
        refine ag_kill_13 ?_
        refine ag_kill_14 ?_
        refine ag_kill_15 ?_
        exact hy375 x2 x6 (0 : Int32) x9 (x10 + (1)) s602
      refine ag_aload_0 (q := 609) dL_make_608 rfl ?_
      refine ag_iload_12 (q := 611) dL_make_609 rfl ?_
      refine ag_bipush (q := 613) (v := 59) dL_make_611 rfl (by decide) ?_
      refine ag_callS_mI (q := 616) (av := [.ref _, .int _, .int _]) (rest := []) dL_make_613 rfl lkL_15 (C_L_number hN x12 (59 : Int32) _) (by decide) (Nat.le_of_ble_eq_true rfl) (fun _ => rfl) (Nat.le_of_ble_eq_true rfl) rfl (fun r613 s613 e613 => ?_)
      refine ag_if_eq (tgt := 623) (q := 619) dL_make_616 rfl rfl ?_ ?_
      · refine ag_iconst (q := 624) (v := 0) dL_make_623 rfl (by decide) ?_
        refine ag_istore_7 (q := 626) dL_make_624 rfl (Nat.le_of_ble_eq_true rfl) rfl ?_
        refine ag_iinc_10 (q := 629) (d := (1)) dL_make_626 rfl (Nat.le_of_ble_eq_true rfl) rfl (by decide) ?_
        refine ag_goto (q := 375) dL_make_629 rfl ?_
        refine ag_kill_11 ?_
        refine ag_kill_12 ?_
        refine ag_kill_13 ?_
        refine ag_kill_14 ?_
        refine ag_kill_15 ?_
        exact hy375 x2 x6 (0 : Int32) x9 (x10 + (1)) s613
      refine ag_iconst (q := 620) (v := 1) dL_make_619 rfl (by decide) ?_
      refine ag_goto (q := 624) dL_make_620 rfl ?_
      refine ag_istore_7 (q := 626) dL_make_624 rfl (Nat.le_of_ble_eq_true rfl) rfl ?_
      refine ag_iinc_10 (q := 629) (d := (1)) dL_make_626 rfl (Nat.le_of_ble_eq_true rfl) rfl (by decide) ?_
      refine ag_goto (q := 375) dL_make_629 rfl ?_
      refine ag_kill_11 ?_
      refine ag_kill_12 ?_
      refine ag_kill_13 ?_
      refine ag_kill_14 ?_
      refine ag_kill_15 ?_
      exact hy375 x2 x6 (1 : Int32) x9 (x10 + (1)) s613
    refine ag_iload_13 (q := 473) dL_make_471 rfl ?_
    refine ag_if_eq (tgt := 493) (q := 476) dL_make_473 rfl rfl ?_ ?_
    · refine ag_iconst (q := 494) (v := 0) dL_make_493 rfl (by decide) ?_
      refine ag_istore_13 (q := 496) dL_make_494 rfl (Nat.le_of_ble_eq_true rfl) rfl ?_
      refine ag_iinc_14 (q := 499) (d := (1)) dL_make_496 rfl (Nat.le_of_ble_eq_true rfl) rfl (by decide) ?_
      refine ag_goto (q := 462) dL_make_499 rfl ?_
      exact ih x2 x6 x7 x9 x10 x11 x12 (0 : Int32) (x14 + (1)) σ
    refine ag_aload_5 (q := 478) dL_make_476 rfl ?_
    refine ag_bipush (q := 480) (v := 37) dL_make_478 rfl (by decide) ?_
    refine ag_iload_14 (q := 482) dL_make_480 rfl ?_
    refine ag_iadd (q := 483) dL_make_482 rfl ?_
    refine ag_iald (q := 484) dL_make_483 rfl (Nat.lt_of_lt_of_le (by decide : 142 < NT) hN) s_142 ?_
    refine ag_iload_12 (q := 486) dL_make_484 rfl ?_
    refine ag_icmp_eq (tgt := 493) (q := 489) dL_make_486 rfl rfl ?_ ?_
    · refine ag_iconst (q := 494) (v := 0) dL_make_493 rfl (by decide) ?_
      refine ag_istore_13 (q := 496) dL_make_494 rfl (Nat.le_of_ble_eq_true rfl) rfl ?_
      refine ag_iinc_14 (q := 499) (d := (1)) dL_make_496 rfl (Nat.le_of_ble_eq_true rfl) rfl (by decide) ?_
      refine ag_goto (q := 462) dL_make_499 rfl ?_
      exact ih x2 x6 x7 x9 x10 x11 x12 (0 : Int32) (x14 + (1)) σ
    refine ag_iconst (q := 490) (v := 1) dL_make_489 rfl (by decide) ?_
    refine ag_goto (q := 494) dL_make_490 rfl ?_
    refine ag_istore_13 (q := 496) dL_make_494 rfl (Nat.le_of_ble_eq_true rfl) rfl ?_
    refine ag_iinc_14 (q := 499) (d := (1)) dL_make_496 rfl (Nat.le_of_ble_eq_true rfl) rfl (by decide) ?_
    refine ag_goto (q := 462) dL_make_499 rfl ?_
    exact ih x2 x6 x7 x9 x10 x11 x12 (1 : Int32) (x14 + (1)) σ
def J_L_make_b440 (Ln : Nat) (xs : Nat → Int32)  (y375 : Int32 → Int32 → Int32 → Int32 → Int32 → Sg → Option (Int32 × Sg)) (x2 : Int32) (x6 : Int32) (x7 : Int32) (x9 : Int32) (x10 : Int32) (x11 : Int32) (w0 : Int32) (σ : Sg) : Option (Int32 × Sg) :=
  (bd1 (J_L_bog w0 σ) fun r446 => (if r446 = 0 then (J_L_make_b462 Ln xs  y375 FU x2 x6 x7 x9 x10 x11 w0 (1 : Int32) (0 : Int32) σ) else (J_L_make_b462 Ln xs  y375 FU x2 x6 x7 x9 x10 x11 w0 (0 : Int32) (0 : Int32) σ)))
set_option maxHeartbeats 4000000 in
theorem A_L_make_b440 (K : KT) {N : Nat} (hN : NT ≤ N) (Ln : Nat) (xs : Nat → Int32) (hX : KX K Ln xs)  (y375 : Int32 → Int32 → Int32 → Int32 → Int32 → Sg → Option (Int32 × Sg)) (hy375 : ∀ (x2 : Int32) (x6 : Int32) (x7 : Int32) (x9 : Int32) (x10 : Int32) (σ : Sg), AG K mL_make N (fun a : Int32 × Sg => (some (.int a.1), N, R0, a.2)) (y375 x2 x6 x7 x9 x10 σ) 375 [some (.ref 0), some (.retAddr 1), some (.int x2), none, some (.ref 141), some (.ref 142), some (.int x6), some (.int x7), none, some (.int x9), some (.int x10), none, none, none, none, none] [] σ) (x2 : Int32) (x6 : Int32) (x7 : Int32) (x9 : Int32) (x10 : Int32) (x11 : Int32) (w0 : Int32) (σ : Sg) : AG K mL_make N (fun a : Int32 × Sg => (some (.int a.1), N, R0, a.2)) (J_L_make_b440 Ln xs  y375 x2 x6 x7 x9 x10 x11 w0 σ) 440 [some (.ref 0), some (.retAddr 1), some (.int x2), none, some (.ref 141), some (.ref 142), some (.int x6), some (.int x7), none, some (.int x9), some (.int x10), some (.int x11), none, none, none, none] [.int w0] σ := by
  unfold J_L_make_b440
  refine ag_istore_12 (q := 442) dL_make_440 rfl (Nat.le_of_ble_eq_true rfl) rfl ?_
  refine ag_aload_4 (q := 444) dL_make_442 rfl ?_
  refine ag_iload_12 (q := 446) dL_make_444 rfl ?_
  refine ag_callS_pI (q := 449) (av := [.ref _, .int _]) (rest := []) dL_make_446 rfl lkL_33 (C_L_bog hN w0 _) (by decide) (Nat.le_of_ble_eq_true rfl) (fun _ => rfl) (Nat.le_of_ble_eq_true rfl) rfl (fun r446 e446 => ?_)
  refine ag_if_ne (tgt := 456) (q := 452) dL_make_449 rfl rfl ?_ ?_
  · refine ag_iconst (q := 457) (v := 0) dL_make_456 rfl (by decide) ?_
    refine ag_istore_13 (q := 459) dL_make_457 rfl (Nat.le_of_ble_eq_true rfl) rfl ?_
    refine ag_iconst (q := 460) (v := 0) dL_make_459 rfl (by decide) ?_
    refine ag_istore_14 (q := 462) dL_make_460 rfl (Nat.le_of_ble_eq_true rfl) rfl ?_
    exact A_L_make_b462 K hN Ln xs hX  y375 hy375 FU x2 x6 x7 x9 x10 x11 w0 (0 : Int32) (0 : Int32) σ
  refine ag_iconst (q := 453) (v := 1) dL_make_452 rfl (by decide) ?_
  refine ag_goto (q := 457) dL_make_453 rfl ?_
  refine ag_istore_13 (q := 459) dL_make_457 rfl (Nat.le_of_ble_eq_true rfl) rfl ?_
  refine ag_iconst (q := 460) (v := 0) dL_make_459 rfl (by decide) ?_
  refine ag_istore_14 (q := 462) dL_make_460 rfl (Nat.le_of_ble_eq_true rfl) rfl ?_
  exact A_L_make_b462 K hN Ln xs hX  y375 hy375 FU x2 x6 x7 x9 x10 x11 w0 (1 : Int32) (0 : Int32) σ
def J_L_make_b375 (Ln : Nat) (xs : Nat → Int32)  : Nat → Int32 → Int32 → Int32 → Int32 → Int32 → Sg → Option (Int32 × Sg)
  | 0, _, _, _, _, _, _ => none
  | k + 1, x2, x6, x7, x9, x10, σ =>
    (if x9 ≤ x10 then (bd1 (J_L_low (x6 >>> ((10 : Int32) &&& 31)) (σ 141 0) σ) fun r641 => (if ((x6 >>> ((16 : Int32) &&& 31)) &&& (3 : Int32)) ≤ 0 then (J_L_make_b695 Ln xs   x2 x6 x7 σ) else (bd1 (J_L_bog r641 σ) fun r660 => (if r660 = 0 then (if x7 = 0 then (J_L_make_b695 Ln xs   x2 x6 (0 : Int32) (up σ 141 3 r641)) else (bd2 (J_L_one (119 : Int32) r641 (up σ 141 3 r641)) fun r682 s682 => (if r682 = 0 then (J_L_make_b695 Ln xs   x2 x6 (0 : Int32) s682) else (J_L_make_b695 Ln xs   x2 x6 (1 : Int32) s682)))) else (J_L_make_b695 Ln xs   x2 x6 x7 σ))))) else (bd1 (J_L_cell Ln xs ((x2 + (7 : Int32)) + (x10 / (2 : Int32))) σ) fun r392 => (bd1 (J_L_low ((r392 >>> (((14 : Int32) * (rmI x10 (2 : Int32))) &&& 31)) &&& (63 : Int32)) (σ 141 0) σ) fun r414 => (if x10 = 0 then (bd1 (J_L_bog r414 σ) fun r428 => (if r428 = 0 then (J_L_make_b440 Ln xs  (fun x2 x6 x7 x9 x10 σ => J_L_make_b375 Ln xs   k x2 x6 x7 x9 x10 σ) x2 x6 x7 x9 x10 (r392 >>> (((14 : Int32) * (rmI x10 (2 : Int32))) &&& 31)) r414 σ) else (J_L_make_b440 Ln xs  (fun x2 x6 x7 x9 x10 σ => J_L_make_b375 Ln xs   k x2 x6 x7 x9 x10 σ) x2 x6 x7 x9 x10 (r392 >>> (((14 : Int32) * (rmI x10 (2 : Int32))) &&& 31)) (0 : Int32) σ))) else (J_L_make_b440 Ln xs  (fun x2 x6 x7 x9 x10 σ => J_L_make_b375 Ln xs   k x2 x6 x7 x9 x10 σ) x2 x6 x7 x9 x10 (r392 >>> (((14 : Int32) * (rmI x10 (2 : Int32))) &&& 31)) r414 σ)))))
set_option maxHeartbeats 4000000 in
theorem A_L_make_b375 (K : KT) {N : Nat} (hN : NT ≤ N) (Ln : Nat) (xs : Nat → Int32) (hX : KX K Ln xs)  : ∀ (k : Nat) (x2 : Int32) (x6 : Int32) (x7 : Int32) (x9 : Int32) (x10 : Int32) (σ : Sg), AG K mL_make N (fun a : Int32 × Sg => (some (.int a.1), N, R0, a.2)) (J_L_make_b375 Ln xs   k x2 x6 x7 x9 x10 σ) 375 [some (.ref 0), some (.retAddr 1), some (.int x2), none, some (.ref 141), some (.ref 142), some (.int x6), some (.int x7), none, some (.int x9), some (.int x10), none, none, none, none, none] [] σ := by
  intro k
  induction k with
  | zero => intro x2 x6 x7 x9 x10 σ; exact ag_none
  | succ k ih =>
    intro x2 x6 x7 x9 x10 σ
    rw [J_L_make_b375]
    refine ag_iload_10 (q := 377) dL_make_375 rfl ?_
    refine ag_iload_9 (q := 379) dL_make_377 rfl ?_
    refine ag_icmp_ge (tgt := 632) (q := 382) dL_make_379 rfl rfl ?_ ?_
    · refine ag_iload_6 (q := 634) dL_make_632 rfl ?_
      refine ag_bipush (q := 636) (v := 10) dL_make_634 rfl (by decide) ?_
      refine ag_ishr (q := 637) dL_make_636 rfl ?_
      refine ag_aload_4 (q := 639) dL_make_637 rfl ?_
      refine ag_iconst (q := 640) (v := 0) dL_make_639 rfl (by decide) ?_
      refine ag_ialdK (q := 641) (k := 0) dL_make_640 rfl (Nat.lt_of_lt_of_le (by decide : 141 < NT) hN) s_141 (by decide) (by decide) ?_
      refine ag_callS_pI (q := 644) (av := [.int _, .int _]) (rest := []) dL_make_641 rfl lkL_29 (C_L_low hN (x6 >>> ((10 : Int32) &&& 31)) (σ 141 0) _) (by decide) (Nat.le_of_ble_eq_true rfl) (fun _ => rfl) (Nat.le_of_ble_eq_true rfl) rfl (fun r641 e641 => ?_)
      refine ag_istore_10 (q := 646) dL_make_644 rfl (Nat.le_of_ble_eq_true rfl) rfl ?_
      refine ag_iload_6 (q := 648) dL_make_646 rfl ?_
      refine ag_bipush (q := 650) (v := 16) dL_make_648 rfl (by decide) ?_
      refine ag_ishr (q := 651) dL_make_650 rfl ?_
      refine ag_iconst (q := 652) (v := 3) dL_make_651 rfl (by decide) ?_
      refine ag_iand (q := 653) dL_make_652 rfl ?_
      refine ag_if_le (tgt := 695) (q := 656) dL_make_653 rfl rfl ?_ ?_
      · refine ag_kill_5 ?_
        refine ag_kill_9 ?_
        refine ag_kill_10 ?_
        exact A_L_make_b695 K hN Ln xs hX   x2 x6 x7 σ
      refine ag_aload_4 (q := 658) dL_make_656 rfl ?_
      refine ag_iload_10 (q := 660) dL_make_658 rfl ?_
      refine ag_callS_pI (q := 663) (av := [.ref _, .int _]) (rest := []) dL_make_660 rfl lkL_33 (C_L_bog hN r641 _) (by decide) (Nat.le_of_ble_eq_true rfl) (fun _ => rfl) (Nat.le_of_ble_eq_true rfl) rfl (fun r660 e660 => ?_)
      refine ag_if_ne (tgt := 695) (q := 666) dL_make_663 rfl rfl ?_ ?_
      · refine ag_kill_5 ?_
        refine ag_kill_9 ?_
        refine ag_kill_10 ?_
        exact A_L_make_b695 K hN Ln xs hX   x2 x6 x7 σ
      refine ag_aload_4 (q := 668) dL_make_666 rfl ?_
      refine ag_iconst (q := 669) (v := 3) dL_make_668 rfl (by decide) ?_
      refine ag_iload_10 (q := 671) dL_make_669 rfl ?_
      refine ag_iastK (q := 672) (k := 3) dL_make_671 rfl (Nat.lt_of_lt_of_le (by decide : 141 < NT) hN) s_141 (by decide) (by decide) ?_
      refine ag_iload_7 (q := 674) dL_make_672 rfl ?_
      refine ag_if_eq (tgt := 692) (q := 677) dL_make_674 rfl rfl ?_ ?_
      · refine ag_iconst (q := 693) (v := 0) dL_make_692 rfl (by decide) ?_
        refine ag_istore_7 (q := 695) dL_make_693 rfl (Nat.le_of_ble_eq_true rfl) rfl ?_
        refine ag_kill_5 ?_
        refine ag_kill_9 ?_
        refine ag_kill_10 ?_
        exact A_L_make_b695 K hN Ln xs hX   x2 x6 (0 : Int32) (up σ 141 3 r641)
      refine ag_aload_0 (q := 678) dL_make_677 rfl ?_
      refine ag_bipush (q := 680) (v := 119) dL_make_678 rfl (by decide) ?_
      refine ag_iload_10 (q := 682) dL_make_680 rfl ?_
      refine ag_callS_mI (q := 685) (av := [.ref _, .int _, .int _]) (rest := []) dL_make_682 rfl lkL_37 (C_L_one hN (119 : Int32) r641 _) (by decide) (Nat.le_of_ble_eq_true rfl) (fun _ => rfl) (Nat.le_of_ble_eq_true rfl) rfl (fun r682 s682 e682 => ?_)
      refine ag_if_eq (tgt := 692) (q := 688) dL_make_685 rfl rfl ?_ ?_
      · refine ag_iconst (q := 693) (v := 0) dL_make_692 rfl (by decide) ?_
        refine ag_istore_7 (q := 695) dL_make_693 rfl (Nat.le_of_ble_eq_true rfl) rfl ?_
        refine ag_kill_5 ?_
        refine ag_kill_9 ?_
        refine ag_kill_10 ?_
        exact A_L_make_b695 K hN Ln xs hX   x2 x6 (0 : Int32) s682
      refine ag_iconst (q := 689) (v := 1) dL_make_688 rfl (by decide) ?_
      refine ag_goto (q := 693) dL_make_689 rfl ?_
      refine ag_istore_7 (q := 695) dL_make_693 rfl (Nat.le_of_ble_eq_true rfl) rfl ?_
      refine ag_kill_5 ?_
      refine ag_kill_9 ?_
      refine ag_kill_10 ?_
      exact A_L_make_b695 K hN Ln xs hX   x2 x6 (1 : Int32) s682
    refine ag_xload_1 (q := 383) dL_make_382 rfl ?_
    refine ag_iload_2 (q := 384) dL_make_383 rfl ?_
    refine ag_bipush (q := 386) (v := 7) dL_make_384 rfl (by decide) ?_
    refine ag_iadd (q := 387) dL_make_386 rfl ?_
    refine ag_iload_10 (q := 389) dL_make_387 rfl ?_
    refine ag_iconst (q := 390) (v := 2) dL_make_389 rfl (by decide) ?_
    refine ag_idivK (q := 391) dL_make_390 rfl (by decide) ?_
    refine ag_iadd (q := 392) dL_make_391 rfl ?_
    refine ag_callSX_pI hX (q := 395) (av := [.retAddr _, .int _]) (rest := []) dL_make_392 rfl lkL_21 (C_L_cell hN Ln xs ((x2 + (7 : Int32)) + (x10 / (2 : Int32))) _) (by decide) (Nat.le_of_ble_eq_true rfl) (Nat.le_of_ble_eq_true rfl) rfl (fun r392 e392 => ?_)
    refine ag_bipush (q := 397) (v := 14) dL_make_395 rfl (by decide) ?_
    refine ag_iload_10 (q := 399) dL_make_397 rfl ?_
    refine ag_iconst (q := 400) (v := 2) dL_make_399 rfl (by decide) ?_
    refine ag_iremK (q := 401) dL_make_400 rfl (by decide) ?_
    refine ag_imul (q := 402) dL_make_401 rfl ?_
    refine ag_ishr (q := 403) dL_make_402 rfl ?_
    refine ag_istore_11 (q := 405) dL_make_403 rfl (Nat.le_of_ble_eq_true rfl) rfl ?_
    refine ag_iload_11 (q := 407) dL_make_405 rfl ?_
    refine ag_bipush (q := 409) (v := 63) dL_make_407 rfl (by decide) ?_
    refine ag_iand (q := 410) dL_make_409 rfl ?_
    refine ag_aload_4 (q := 412) dL_make_410 rfl ?_
    refine ag_iconst (q := 413) (v := 0) dL_make_412 rfl (by decide) ?_
    refine ag_ialdK (q := 414) (k := 0) dL_make_413 rfl (Nat.lt_of_lt_of_le (by decide : 141 < NT) hN) s_141 (by decide) (by decide) ?_
    refine ag_callS_pI (q := 417) (av := [.int _, .int _]) (rest := []) dL_make_414 rfl lkL_29 (C_L_low hN ((r392 >>> (((14 : Int32) * (rmI x10 (2 : Int32))) &&& 31)) &&& (63 : Int32)) (σ 141 0) _) (by decide) (Nat.le_of_ble_eq_true rfl) (fun _ => rfl) (Nat.le_of_ble_eq_true rfl) rfl (fun r414 e414 => ?_)
    refine ag_istore_12 (q := 419) dL_make_417 rfl (Nat.le_of_ble_eq_true rfl) rfl ?_
    refine ag_iload_10 (q := 421) dL_make_419 rfl ?_
    refine ag_if_ne (tgt := 438) (q := 424) dL_make_421 rfl rfl ?_ ?_
    · refine ag_iload_12 (q := 440) dL_make_438 rfl ?_
      refine ag_kill_12 ?_
      exact A_L_make_b440 K hN Ln xs hX  (fun x2 x6 x7 x9 x10 σ => J_L_make_b375 Ln xs   k x2 x6 x7 x9 x10 σ) (fun x2 x6 x7 x9 x10 σ => ih x2 x6 x7 x9 x10 σ) x2 x6 x7 x9 x10 (r392 >>> (((14 : Int32) * (rmI x10 (2 : Int32))) &&& 31)) r414 σ
    refine ag_aload_4 (q := 426) dL_make_424 rfl ?_
    refine ag_iload_12 (q := 428) dL_make_426 rfl ?_
    refine ag_callS_pI (q := 431) (av := [.ref _, .int _]) (rest := []) dL_make_428 rfl lkL_33 (C_L_bog hN r414 _) (by decide) (Nat.le_of_ble_eq_true rfl) (fun _ => rfl) (Nat.le_of_ble_eq_true rfl) rfl (fun r428 e428 => ?_)
    refine ag_if_eq (tgt := 438) (q := 434) dL_make_431 rfl rfl ?_ ?_
    · refine ag_iload_12 (q := 440) dL_make_438 rfl ?_
      refine ag_kill_12 ?_
      exact A_L_make_b440 K hN Ln xs hX  (fun x2 x6 x7 x9 x10 σ => J_L_make_b375 Ln xs   k x2 x6 x7 x9 x10 σ) (fun x2 x6 x7 x9 x10 σ => ih x2 x6 x7 x9 x10 σ) x2 x6 x7 x9 x10 (r392 >>> (((14 : Int32) * (rmI x10 (2 : Int32))) &&& 31)) r414 σ
    refine ag_iconst (q := 435) (v := 0) dL_make_434 rfl (by decide) ?_
    refine ag_goto (q := 440) dL_make_435 rfl ?_
    refine ag_kill_12 ?_
    exact A_L_make_b440 K hN Ln xs hX  (fun x2 x6 x7 x9 x10 σ => J_L_make_b375 Ln xs   k x2 x6 x7 x9 x10 σ) (fun x2 x6 x7 x9 x10 σ => ih x2 x6 x7 x9 x10 σ) x2 x6 x7 x9 x10 (r392 >>> (((14 : Int32) * (rmI x10 (2 : Int32))) &&& 31)) (0 : Int32) σ
def J_L_make_b300 (Ln : Nat) (xs : Nat → Int32)  (y133 : Int32 → Int32 → Int32 → Int32 → Int32 → Sg → Option (Int32 × Sg)) (y176 : Int32 → Int32 → Int32 → Int32 → Int32 → Int32 → Int32 → Sg → Option (Int32 × Sg)) (x2 : Int32) (x6 : Int32) (x7 : Int32) (x8 : Int32) (x9 : Int32) (x10 : Int32) (x11 : Int32) (x13 : Int32) (w0 : Int32) (w1 : Int32) (σ : Sg) : Option (Int32 × Sg) :=
  (if inb w1 54 = true then (if x7 = 0 then (y176 x2 x6 (0 : Int32) x8 x9 x10 (x11 + (1)) (up σ 142 w1.toNatClampNeg w0)) else (bd2 (J_X7_write ((48 : Int32) + x13) (up σ 142 w1.toNatClampNeg w0)) fun r312 s312 => (if r312 ≤ 0 then (y176 x2 x6 (0 : Int32) x8 x9 x10 (x11 + (1)) s312) else (y176 x2 x6 (1 : Int32) x8 x9 x10 (x11 + (1)) s312)))) else none)
set_option maxHeartbeats 4000000 in
theorem A_L_make_b300 (K : KT) {N : Nat} (hN : NT ≤ N) (Ln : Nat) (xs : Nat → Int32) (hX : KX K Ln xs)  (y133 : Int32 → Int32 → Int32 → Int32 → Int32 → Sg → Option (Int32 × Sg)) (hy133 : ∀ (x2 : Int32) (x6 : Int32) (x7 : Int32) (x8 : Int32) (x9 : Int32) (σ : Sg), AG K mL_make N (fun a : Int32 × Sg => (some (.int a.1), N, R0, a.2)) (y133 x2 x6 x7 x8 x9 σ) 133 [some (.ref 0), some (.retAddr 1), some (.int x2), none, some (.ref 141), some (.ref 142), some (.int x6), some (.int x7), some (.int x8), some (.int x9), none, none, none, none, none, none] [] σ) (y176 : Int32 → Int32 → Int32 → Int32 → Int32 → Int32 → Int32 → Sg → Option (Int32 × Sg)) (hy176 : ∀ (x2 : Int32) (x6 : Int32) (x7 : Int32) (x8 : Int32) (x9 : Int32) (x10 : Int32) (x11 : Int32) (σ : Sg), AG K mL_make N (fun a : Int32 × Sg => (some (.int a.1), N, R0, a.2)) (y176 x2 x6 x7 x8 x9 x10 x11 σ) 176 [some (.ref 0), some (.retAddr 1), some (.int x2), none, some (.ref 141), some (.ref 142), some (.int x6), some (.int x7), some (.int x8), some (.int x9), some (.int x10), some (.int x11), none, none, none, none] [] σ) (x2 : Int32) (x6 : Int32) (x7 : Int32) (x8 : Int32) (x9 : Int32) (x10 : Int32) (x11 : Int32) (x13 : Int32) (w0 : Int32) (w1 : Int32) (σ : Sg) : AG K mL_make N (fun a : Int32 × Sg => (some (.int a.1), N, R0, a.2)) (J_L_make_b300 Ln xs  y133 y176 x2 x6 x7 x8 x9 x10 x11 x13 w0 w1 σ) 300 [some (.ref 0), some (.retAddr 1), some (.int x2), none, some (.ref 141), some (.ref 142), some (.int x6), some (.int x7), some (.int x8), some (.int x9), some (.int x10), some (.int x11), none, some (.int x13), none, none] [.int w0, .int w1, .ref 142] σ := by
  unfold J_L_make_b300
  refine ag_iast (q := 301) dL_make_300 rfl (Nat.lt_of_lt_of_le (by decide : 142 < NT) hN) s_142 ?_
  refine ag_iload_7 (q := 303) dL_make_301 rfl ?_
  refine ag_if_eq (tgt := 322) (q := 306) dL_make_303 rfl rfl ?_ ?_
  · refine ag_iconst (q := 323) (v := 0) dL_make_322 rfl (by decide) ?_
    refine ag_istore_7 (q := 325) dL_make_323 rfl (Nat.le_of_ble_eq_true rfl) rfl ?_
    refine ag_iinc_11 (q := 328) (d := (1)) dL_make_325 rfl (Nat.le_of_ble_eq_true rfl) rfl (by decide) ?_
    refine ag_goto (q := 176) dL_make_328 rfl ?_
    refine ag_kill_13 ?_
    exact hy176 x2 x6 (0 : Int32) x8 x9 x10 (x11 + (1)) (up σ 142 w1.toNatClampNeg w0)
  refine ag_aload_0 (q := 307) dL_make_306 rfl ?_
  refine ag_bipush (q := 309) (v := 48) dL_make_307 rfl (by decide) ?_
  refine ag_iload_13 (q := 311) dL_make_309 rfl ?_
  refine ag_iadd (q := 312) dL_make_311 rfl ?_
  refine ag_callV_mI (q := 315) (av := [.int _]) (rest := []) dL_make_312 rfl lkL_9 (C_X7_write (Nat.le_trans (by decide) hN) ((48 : Int32) + x13) _) (by decide) (Nat.le_of_ble_eq_true rfl) (Nat.lt_of_lt_of_le (by decide : 0 < NT) hN) (congrArg Prod.fst s_0) (by decide) (fun _ => rfl) (Nat.le_of_ble_eq_true rfl) rfl (fun r312 s312 e312 => ?_)
  refine ag_if_le (tgt := 322) (q := 318) dL_make_315 rfl rfl ?_ ?_
  · refine ag_iconst (q := 323) (v := 0) dL_make_322 rfl (by decide) ?_
    refine ag_istore_7 (q := 325) dL_make_323 rfl (Nat.le_of_ble_eq_true rfl) rfl ?_
    refine ag_iinc_11 (q := 328) (d := (1)) dL_make_325 rfl (Nat.le_of_ble_eq_true rfl) rfl (by decide) ?_
    refine ag_goto (q := 176) dL_make_328 rfl ?_
    refine ag_kill_13 ?_
    exact hy176 x2 x6 (0 : Int32) x8 x9 x10 (x11 + (1)) s312
  refine ag_iconst (q := 319) (v := 1) dL_make_318 rfl (by decide) ?_
  refine ag_goto (q := 323) dL_make_319 rfl ?_
  refine ag_istore_7 (q := 325) dL_make_323 rfl (Nat.le_of_ble_eq_true rfl) rfl ?_
  refine ag_iinc_11 (q := 328) (d := (1)) dL_make_325 rfl (Nat.le_of_ble_eq_true rfl) rfl (by decide) ?_
  refine ag_goto (q := 176) dL_make_328 rfl ?_
  refine ag_kill_13 ?_
  exact hy176 x2 x6 (1 : Int32) x8 x9 x10 (x11 + (1)) s312
def J_L_make_b273 (Ln : Nat) (xs : Nat → Int32)  (y133 : Int32 → Int32 → Int32 → Int32 → Int32 → Sg → Option (Int32 × Sg)) (y176 : Int32 → Int32 → Int32 → Int32 → Int32 → Int32 → Int32 → Sg → Option (Int32 × Sg)) (x2 : Int32) (x6 : Int32) (x7 : Int32) (x8 : Int32) (x9 : Int32) (x10 : Int32) (x11 : Int32) (x13 : Int32) (σ : Sg) : Option (Int32 × Sg) :=
  (if x13 = (9 : Int32) then (J_L_make_b300 Ln xs  y133 y176 x2 x6 x7 x8 x9 x10 x11 x13 (0 : Int32) (((1 : Int32) + (x9 * (σ 141 1))) + x11) σ) else (J_L_make_b300 Ln xs  y133 y176 x2 x6 x7 x8 x9 x10 x11 x13 x13 (((1 : Int32) + (x9 * (σ 141 1))) + x11) σ))
set_option maxHeartbeats 4000000 in
theorem A_L_make_b273 (K : KT) {N : Nat} (hN : NT ≤ N) (Ln : Nat) (xs : Nat → Int32) (hX : KX K Ln xs)  (y133 : Int32 → Int32 → Int32 → Int32 → Int32 → Sg → Option (Int32 × Sg)) (hy133 : ∀ (x2 : Int32) (x6 : Int32) (x7 : Int32) (x8 : Int32) (x9 : Int32) (σ : Sg), AG K mL_make N (fun a : Int32 × Sg => (some (.int a.1), N, R0, a.2)) (y133 x2 x6 x7 x8 x9 σ) 133 [some (.ref 0), some (.retAddr 1), some (.int x2), none, some (.ref 141), some (.ref 142), some (.int x6), some (.int x7), some (.int x8), some (.int x9), none, none, none, none, none, none] [] σ) (y176 : Int32 → Int32 → Int32 → Int32 → Int32 → Int32 → Int32 → Sg → Option (Int32 × Sg)) (hy176 : ∀ (x2 : Int32) (x6 : Int32) (x7 : Int32) (x8 : Int32) (x9 : Int32) (x10 : Int32) (x11 : Int32) (σ : Sg), AG K mL_make N (fun a : Int32 × Sg => (some (.int a.1), N, R0, a.2)) (y176 x2 x6 x7 x8 x9 x10 x11 σ) 176 [some (.ref 0), some (.retAddr 1), some (.int x2), none, some (.ref 141), some (.ref 142), some (.int x6), some (.int x7), some (.int x8), some (.int x9), some (.int x10), some (.int x11), none, none, none, none] [] σ) (x2 : Int32) (x6 : Int32) (x7 : Int32) (x8 : Int32) (x9 : Int32) (x10 : Int32) (x11 : Int32) (x13 : Int32) (σ : Sg) : AG K mL_make N (fun a : Int32 × Sg => (some (.int a.1), N, R0, a.2)) (J_L_make_b273 Ln xs  y133 y176 x2 x6 x7 x8 x9 x10 x11 x13 σ) 273 [some (.ref 0), some (.retAddr 1), some (.int x2), none, some (.ref 141), some (.ref 142), some (.int x6), some (.int x7), some (.int x8), some (.int x9), some (.int x10), some (.int x11), none, some (.int x13), none, none] [] σ := by
  unfold J_L_make_b273
  refine ag_aload_5 (q := 275) dL_make_273 rfl ?_
  refine ag_iconst (q := 276) (v := 1) dL_make_275 rfl (by decide) ?_
  refine ag_iload_9 (q := 278) dL_make_276 rfl ?_
  refine ag_aload_4 (q := 280) dL_make_278 rfl ?_
  refine ag_iconst (q := 281) (v := 1) dL_make_280 rfl (by decide) ?_
  refine ag_ialdK (q := 282) (k := 1) dL_make_281 rfl (Nat.lt_of_lt_of_le (by decide : 141 < NT) hN) s_141 (by decide) (by decide) ?_
  refine ag_imul (q := 283) dL_make_282 rfl ?_
  refine ag_iadd (q := 284) dL_make_283 rfl ?_
  refine ag_iload_11 (q := 286) dL_make_284 rfl ?_
  refine ag_iadd (q := 287) dL_make_286 rfl ?_
  refine ag_iload_13 (q := 289) dL_make_287 rfl ?_
  refine ag_bipush (q := 291) (v := 9) dL_make_289 rfl (by decide) ?_
  refine ag_icmp_ne (tgt := 298) (q := 294) dL_make_291 rfl rfl ?_ ?_
  · refine ag_iload_13 (q := 300) dL_make_298 rfl ?_
    exact A_L_make_b300 K hN Ln xs hX  y133 hy133 y176 hy176 x2 x6 x7 x8 x9 x10 x11 x13 x13 (((1 : Int32) + (x9 * (σ 141 1))) + x11) σ
  refine ag_iconst (q := 295) (v := 0) dL_make_294 rfl (by decide) ?_
  refine ag_goto (q := 300) dL_make_295 rfl ?_
  exact A_L_make_b300 K hN Ln xs hX  y133 hy133 y176 hy176 x2 x6 x7 x8 x9 x10 x11 x13 (0 : Int32) (((1 : Int32) + (x9 * (σ 141 1))) + x11) σ
def J_L_make_b249 (Ln : Nat) (xs : Nat → Int32)  (y133 : Int32 → Int32 → Int32 → Int32 → Int32 → Sg → Option (Int32 × Sg)) (y176 : Int32 → Int32 → Int32 → Int32 → Int32 → Int32 → Int32 → Sg → Option (Int32 × Sg)) (x2 : Int32) (x6 : Int32) (x7 : Int32) (x8 : Int32) (x9 : Int32) (x10 : Int32) (x11 : Int32) (w0 : Int32) (σ : Sg) : Option (Int32 × Sg) :=
  (if w0 = (9 : Int32) then (if inb ((7 : Int32) + x9) 22 = true then (if inb ((7 : Int32) + x9) 22 = true then (J_L_make_b273 Ln xs  y133 y176 x2 x6 x7 x8 x9 x10 x11 w0 (up σ 141 ((7 : Int32) + x9).toNatClampNeg ((σ 141 ((7 : Int32) + x9).toNatClampNeg) ||| ((1 : Int32) <<< (x11 &&& 31))))) else none) else none) else (J_L_make_b273 Ln xs  y133 y176 x2 x6 x7 x8 x9 x10 x11 w0 σ))
set_option maxHeartbeats 4000000 in
theorem A_L_make_b249 (K : KT) {N : Nat} (hN : NT ≤ N) (Ln : Nat) (xs : Nat → Int32) (hX : KX K Ln xs)  (y133 : Int32 → Int32 → Int32 → Int32 → Int32 → Sg → Option (Int32 × Sg)) (hy133 : ∀ (x2 : Int32) (x6 : Int32) (x7 : Int32) (x8 : Int32) (x9 : Int32) (σ : Sg), AG K mL_make N (fun a : Int32 × Sg => (some (.int a.1), N, R0, a.2)) (y133 x2 x6 x7 x8 x9 σ) 133 [some (.ref 0), some (.retAddr 1), some (.int x2), none, some (.ref 141), some (.ref 142), some (.int x6), some (.int x7), some (.int x8), some (.int x9), none, none, none, none, none, none] [] σ) (y176 : Int32 → Int32 → Int32 → Int32 → Int32 → Int32 → Int32 → Sg → Option (Int32 × Sg)) (hy176 : ∀ (x2 : Int32) (x6 : Int32) (x7 : Int32) (x8 : Int32) (x9 : Int32) (x10 : Int32) (x11 : Int32) (σ : Sg), AG K mL_make N (fun a : Int32 × Sg => (some (.int a.1), N, R0, a.2)) (y176 x2 x6 x7 x8 x9 x10 x11 σ) 176 [some (.ref 0), some (.retAddr 1), some (.int x2), none, some (.ref 141), some (.ref 142), some (.int x6), some (.int x7), some (.int x8), some (.int x9), some (.int x10), some (.int x11), none, none, none, none] [] σ) (x2 : Int32) (x6 : Int32) (x7 : Int32) (x8 : Int32) (x9 : Int32) (x10 : Int32) (x11 : Int32) (w0 : Int32) (σ : Sg) : AG K mL_make N (fun a : Int32 × Sg => (some (.int a.1), N, R0, a.2)) (J_L_make_b249 Ln xs  y133 y176 x2 x6 x7 x8 x9 x10 x11 w0 σ) 249 [some (.ref 0), some (.retAddr 1), some (.int x2), none, some (.ref 141), some (.ref 142), some (.int x6), some (.int x7), some (.int x8), some (.int x9), some (.int x10), some (.int x11), none, none, none, none] [.int w0] σ := by
  unfold J_L_make_b249
  refine ag_istore_13 (q := 251) dL_make_249 rfl (Nat.le_of_ble_eq_true rfl) rfl ?_
  refine ag_iload_13 (q := 253) dL_make_251 rfl ?_
  refine ag_bipush (q := 255) (v := 9) dL_make_253 rfl (by decide) ?_
  refine ag_icmp_ne (tgt := 273) (q := 258) dL_make_255 rfl rfl ?_ ?_
  · exact A_L_make_b273 K hN Ln xs hX  y133 hy133 y176 hy176 x2 x6 x7 x8 x9 x10 x11 w0 σ
  refine ag_aload_4 (q := 260) dL_make_258 rfl ?_
  refine ag_bipush (q := 262) (v := 7) dL_make_260 rfl (by decide) ?_
  refine ag_iload_9 (q := 264) dL_make_262 rfl ?_
  refine ag_iadd (q := 265) dL_make_264 rfl ?_
  refine ag_dup2 (q := 266) dL_make_265 rfl rfl rfl ?_
  refine ag_iald (q := 267) dL_make_266 rfl (Nat.lt_of_lt_of_le (by decide : 141 < NT) hN) s_141 ?_
  refine ag_iconst (q := 268) (v := 1) dL_make_267 rfl (by decide) ?_
  refine ag_iload_11 (q := 270) dL_make_268 rfl ?_
  refine ag_ishl (q := 271) dL_make_270 rfl ?_
  refine ag_ior (q := 272) dL_make_271 rfl ?_
  refine ag_iast (q := 273) dL_make_272 rfl (Nat.lt_of_lt_of_le (by decide : 141 < NT) hN) s_141 ?_
  exact A_L_make_b273 K hN Ln xs hX  y133 hy133 y176 hy176 x2 x6 x7 x8 x9 x10 x11 w0 (up σ 141 ((7 : Int32) + x9).toNatClampNeg ((σ 141 ((7 : Int32) + x9).toNatClampNeg) ||| ((1 : Int32) <<< (x11 &&& 31))))
def J_L_make_b176 (Ln : Nat) (xs : Nat → Int32)  (y133 : Int32 → Int32 → Int32 → Int32 → Int32 → Sg → Option (Int32 × Sg)) : Nat → Int32 → Int32 → Int32 → Int32 → Int32 → Int32 → Int32 → Sg → Option (Int32 × Sg)
  | 0, _, _, _, _, _, _, _, _ => none
  | k + 1, x2, x6, x7, x8, x9, x10, x11, σ =>
    (if (σ 141 1) ≤ x11 then (if x7 = 0 then (y133 x2 x6 (0 : Int32) x8 (x9 + (1)) σ) else (bd2 (J_X7_write (59 : Int32) σ) fun r339 s339 => (if r339 ≤ 0 then (y133 x2 x6 (0 : Int32) x8 (x9 + (1)) s339) else (y133 x2 x6 (1 : Int32) x8 (x9 + (1)) s339)))) else (if (14 : Int32) ≤ ((x10 >>> (((5 : Int32) * x11) &&& 31)) &&& (31 : Int32)) then (if (28 : Int32) ≤ ((x10 >>> (((5 : Int32) * x11) &&& 31)) &&& (31 : Int32)) then (if (x9 + x11) = 0 then (J_L_make_b249 Ln xs  y133 (fun x2 x6 x7 x8 x9 x10 x11 σ => J_L_make_b176 Ln xs  y133 k x2 x6 x7 x8 x9 x10 x11 σ) x2 x6 x7 x8 x9 x10 x11 (0 : Int32) σ) else (J_L_make_b249 Ln xs  y133 (fun x2 x6 x7 x8 x9 x10 x11 σ => J_L_make_b176 Ln xs  y133 k x2 x6 x7 x8 x9 x10 x11 σ) x2 x6 x7 x8 x9 x10 x11 (9 : Int32) σ)) else (if 0 ≤ (((x10 >>> (((5 : Int32) * x11) &&& 31)) &&& (31 : Int32)) - (19 : Int32)) then (J_L_make_b249 Ln xs  y133 (fun x2 x6 x7 x8 x9 x10 x11 σ => J_L_make_b176 Ln xs  y133 k x2 x6 x7 x8 x9 x10 x11 σ) x2 x6 x7 x8 x9 x10 x11 (((x10 >>> (((5 : Int32) * x11) &&& 31)) &&& (31 : Int32)) - (19 : Int32)) σ) else (J_L_make_b249 Ln xs  y133 (fun x2 x6 x7 x8 x9 x10 x11 σ => J_L_make_b176 Ln xs  y133 k x2 x6 x7 x8 x9 x10 x11 σ) x2 x6 x7 x8 x9 x10 x11 (1 : Int32) σ))) else (J_L_make_b249 Ln xs  y133 (fun x2 x6 x7 x8 x9 x10 x11 σ => J_L_make_b176 Ln xs  y133 k x2 x6 x7 x8 x9 x10 x11 σ) x2 x6 x7 x8 x9 x10 x11 (0 : Int32) σ)))
set_option maxHeartbeats 4000000 in
theorem A_L_make_b176 (K : KT) {N : Nat} (hN : NT ≤ N) (Ln : Nat) (xs : Nat → Int32) (hX : KX K Ln xs)  (y133 : Int32 → Int32 → Int32 → Int32 → Int32 → Sg → Option (Int32 × Sg)) (hy133 : ∀ (x2 : Int32) (x6 : Int32) (x7 : Int32) (x8 : Int32) (x9 : Int32) (σ : Sg), AG K mL_make N (fun a : Int32 × Sg => (some (.int a.1), N, R0, a.2)) (y133 x2 x6 x7 x8 x9 σ) 133 [some (.ref 0), some (.retAddr 1), some (.int x2), none, some (.ref 141), some (.ref 142), some (.int x6), some (.int x7), some (.int x8), some (.int x9), none, none, none, none, none, none] [] σ) : ∀ (k : Nat) (x2 : Int32) (x6 : Int32) (x7 : Int32) (x8 : Int32) (x9 : Int32) (x10 : Int32) (x11 : Int32) (σ : Sg), AG K mL_make N (fun a : Int32 × Sg => (some (.int a.1), N, R0, a.2)) (J_L_make_b176 Ln xs  y133 k x2 x6 x7 x8 x9 x10 x11 σ) 176 [some (.ref 0), some (.retAddr 1), some (.int x2), none, some (.ref 141), some (.ref 142), some (.int x6), some (.int x7), some (.int x8), some (.int x9), some (.int x10), some (.int x11), none, none, none, none] [] σ := by
  intro k
  induction k with
  | zero => intro x2 x6 x7 x8 x9 x10 x11 σ; exact ag_none
  | succ k ih =>
    intro x2 x6 x7 x8 x9 x10 x11 σ
    rw [J_L_make_b176]
    refine ag_iload_11 (q := 178) dL_make_176 rfl ?_
    refine ag_aload_4 (q := 180) dL_make_178 rfl ?_
    refine ag_iconst (q := 181) (v := 1) dL_make_180 rfl (by decide) ?_
    refine ag_ialdK (q := 182) (k := 1) dL_make_181 rfl (Nat.lt_of_lt_of_le (by decide : 141 < NT) hN) s_141 (by decide) (by decide) ?_
    refine ag_icmp_ge (tgt := 331) (q := 185) dL_make_182 rfl rfl ?_ ?_
    · refine ag_iload_7 (q := 333) dL_make_331 rfl ?_
      refine ag_if_eq (tgt := 349) (q := 336) dL_make_333 rfl rfl ?_ ?_
      · refine ag_iconst (q := 350) (v := 0) dL_make_349 rfl (by decide) ?_
        refine ag_istore_7 (q := 352) dL_make_350 rfl (Nat.le_of_ble_eq_true rfl) rfl ?_
        refine ag_iinc_9 (q := 355) (d := (1)) dL_make_352 rfl (Nat.le_of_ble_eq_true rfl) rfl (by decide) ?_
        refine ag_goto (q := 133) dL_make_355 rfl ?_
        refine ag_kill_10 ?_
        refine ag_kill_11 ?_
        exact hy133 x2 x6 (0 : Int32) x8 (x9 + (1)) σ
      refine ag_aload_0 (q := 337) dL_make_336 rfl ?_
      refine ag_bipush (q := 339) (v := 59) dL_make_337 rfl (by decide) ?_
      refine ag_callV_mI (q := 342) (av := [.int _]) (rest := []) dL_make_339 rfl lkL_9 (C_X7_write (Nat.le_trans (by decide) hN) (59 : Int32) _) (by decide) (Nat.le_of_ble_eq_true rfl) (Nat.lt_of_lt_of_le (by decide : 0 < NT) hN) (congrArg Prod.fst s_0) (by decide) (fun _ => rfl) (Nat.le_of_ble_eq_true rfl) rfl (fun r339 s339 e339 => ?_)
      refine ag_if_le (tgt := 349) (q := 345) dL_make_342 rfl rfl ?_ ?_
      · refine ag_iconst (q := 350) (v := 0) dL_make_349 rfl (by decide) ?_
        refine ag_istore_7 (q := 352) dL_make_350 rfl (Nat.le_of_ble_eq_true rfl) rfl ?_
        refine ag_iinc_9 (q := 355) (d := (1)) dL_make_352 rfl (Nat.le_of_ble_eq_true rfl) rfl (by decide) ?_
        refine ag_goto (q := 133) dL_make_355 rfl ?_
        refine ag_kill_10 ?_
        refine ag_kill_11 ?_
        exact hy133 x2 x6 (0 : Int32) x8 (x9 + (1)) s339
      refine ag_iconst (q := 346) (v := 1) dL_make_345 rfl (by decide) ?_
      refine ag_goto (q := 350) dL_make_346 rfl ?_
      refine ag_istore_7 (q := 352) dL_make_350 rfl (Nat.le_of_ble_eq_true rfl) rfl ?_
      refine ag_iinc_9 (q := 355) (d := (1)) dL_make_352 rfl (Nat.le_of_ble_eq_true rfl) rfl (by decide) ?_
      refine ag_goto (q := 133) dL_make_355 rfl ?_
      refine ag_kill_10 ?_
      refine ag_kill_11 ?_
      exact hy133 x2 x6 (1 : Int32) x8 (x9 + (1)) s339
    refine ag_iload_10 (q := 187) dL_make_185 rfl ?_
    refine ag_iconst (q := 188) (v := 5) dL_make_187 rfl (by decide) ?_
    refine ag_iload_11 (q := 190) dL_make_188 rfl ?_
    refine ag_imul (q := 191) dL_make_190 rfl ?_
    refine ag_ishr (q := 192) dL_make_191 rfl ?_
    refine ag_bipush (q := 194) (v := 31) dL_make_192 rfl (by decide) ?_
    refine ag_iand (q := 195) dL_make_194 rfl ?_
    refine ag_istore_12 (q := 197) dL_make_195 rfl (Nat.le_of_ble_eq_true rfl) rfl ?_
    refine ag_iload_12 (q := 199) dL_make_197 rfl ?_
    refine ag_bipush (q := 201) (v := 14) dL_make_199 rfl (by decide) ?_
    refine ag_icmp_ge (tgt := 208) (q := 204) dL_make_201 rfl rfl ?_ ?_
    · refine ag_iload_12 (q := 210) dL_make_208 rfl ?_
      refine ag_bipush (q := 212) (v := 28) dL_make_210 rfl (by decide) ?_
      refine ag_icmp_ge (tgt := 235) (q := 215) dL_make_212 rfl rfl ?_ ?_
      · refine ag_iload_9 (q := 237) dL_make_235 rfl ?_
        refine ag_iload_11 (q := 239) dL_make_237 rfl ?_
        refine ag_iadd (q := 240) dL_make_239 rfl ?_
        refine ag_if_ne (tgt := 247) (q := 243) dL_make_240 rfl rfl ?_ ?_
        · refine ag_bipush (q := 249) (v := 9) dL_make_247 rfl (by decide) ?_
          refine ag_kill_12 ?_
          exact A_L_make_b249 K hN Ln xs hX  y133 hy133 (fun x2 x6 x7 x8 x9 x10 x11 σ => J_L_make_b176 Ln xs  y133 k x2 x6 x7 x8 x9 x10 x11 σ) (fun x2 x6 x7 x8 x9 x10 x11 σ => ih x2 x6 x7 x8 x9 x10 x11 σ) x2 x6 x7 x8 x9 x10 x11 (9 : Int32) σ
        refine ag_iconst (q := 244) (v := 0) dL_make_243 rfl (by decide) ?_
        refine ag_goto (q := 249) dL_make_244 rfl ?_
        refine ag_kill_12 ?_
        exact A_L_make_b249 K hN Ln xs hX  y133 hy133 (fun x2 x6 x7 x8 x9 x10 x11 σ => J_L_make_b176 Ln xs  y133 k x2 x6 x7 x8 x9 x10 x11 σ) (fun x2 x6 x7 x8 x9 x10 x11 σ => ih x2 x6 x7 x8 x9 x10 x11 σ) x2 x6 x7 x8 x9 x10 x11 (0 : Int32) σ
      refine ag_iload_12 (q := 217) dL_make_215 rfl ?_
      refine ag_bipush (q := 219) (v := 19) dL_make_217 rfl (by decide) ?_
      refine ag_isub (q := 220) dL_make_219 rfl ?_
      refine ag_if_ge (tgt := 227) (q := 223) dL_make_220 rfl rfl ?_ ?_
      · refine ag_iload_12 (q := 229) dL_make_227 rfl ?_
        refine ag_bipush (q := 231) (v := 19) dL_make_229 rfl (by decide) ?_
        refine ag_isub (q := 232) dL_make_231 rfl ?_
        refine ag_goto (q := 249) dL_make_232 rfl ?_
        refine ag_kill_12 ?_
        exact A_L_make_b249 K hN Ln xs hX  y133 hy133 (fun x2 x6 x7 x8 x9 x10 x11 σ => J_L_make_b176 Ln xs  y133 k x2 x6 x7 x8 x9 x10 x11 σ) (fun x2 x6 x7 x8 x9 x10 x11 σ => ih x2 x6 x7 x8 x9 x10 x11 σ) x2 x6 x7 x8 x9 x10 x11 (((x10 >>> (((5 : Int32) * x11) &&& 31)) &&& (31 : Int32)) - (19 : Int32)) σ
      refine ag_iconst (q := 224) (v := 1) dL_make_223 rfl (by decide) ?_
      refine ag_goto (q := 249) dL_make_224 rfl ?_
      refine ag_kill_12 ?_
      exact A_L_make_b249 K hN Ln xs hX  y133 hy133 (fun x2 x6 x7 x8 x9 x10 x11 σ => J_L_make_b176 Ln xs  y133 k x2 x6 x7 x8 x9 x10 x11 σ) (fun x2 x6 x7 x8 x9 x10 x11 σ => ih x2 x6 x7 x8 x9 x10 x11 σ) x2 x6 x7 x8 x9 x10 x11 (1 : Int32) σ
    refine ag_iconst (q := 205) (v := 0) dL_make_204 rfl (by decide) ?_
    refine ag_goto (q := 249) dL_make_205 rfl ?_
    refine ag_kill_12 ?_
    exact A_L_make_b249 K hN Ln xs hX  y133 hy133 (fun x2 x6 x7 x8 x9 x10 x11 σ => J_L_make_b176 Ln xs  y133 k x2 x6 x7 x8 x9 x10 x11 σ) (fun x2 x6 x7 x8 x9 x10 x11 σ => ih x2 x6 x7 x8 x9 x10 x11 σ) x2 x6 x7 x8 x9 x10 x11 (0 : Int32) σ
def J_L_make_b133 (Ln : Nat) (xs : Nat → Int32)  : Nat → Int32 → Int32 → Int32 → Int32 → Int32 → Sg → Option (Int32 × Sg)
  | 0, _, _, _, _, _, _ => none
  | k + 1, x2, x6, x7, x8, x9, σ =>
    (if x8 ≤ x9 then (bd1 (J_L_low (x6 >>> ((6 : Int32) &&& 31)) (8 : Int32) σ) fun r366 => (J_L_make_b375 Ln xs   FU x2 x6 x7 ((1 : Int32) + r366) (0 : Int32) σ)) else (if x7 = 0 then (bd1 (J_L_cell Ln xs ((x2 + (1 : Int32)) + x9) σ) fun r168 => (J_L_make_b176 Ln xs  (fun x2 x6 x7 x8 x9 σ => J_L_make_b133 Ln xs   k x2 x6 x7 x8 x9 σ) FU x2 x6 (0 : Int32) x8 x9 r168 (0 : Int32) σ)) else (bd2 (J_X7_write (114 : Int32) σ) fun r148 s148 => (if r148 ≤ 0 then (bd1 (J_L_cell Ln xs ((x2 + (1 : Int32)) + x9) s148) fun r168 => (J_L_make_b176 Ln xs  (fun x2 x6 x7 x8 x9 σ => J_L_make_b133 Ln xs   k x2 x6 x7 x8 x9 σ) FU x2 x6 (0 : Int32) x8 x9 r168 (0 : Int32) s148)) else (bd1 (J_L_cell Ln xs ((x2 + (1 : Int32)) + x9) s148) fun r168 => (J_L_make_b176 Ln xs  (fun x2 x6 x7 x8 x9 σ => J_L_make_b133 Ln xs   k x2 x6 x7 x8 x9 σ) FU x2 x6 (1 : Int32) x8 x9 r168 (0 : Int32) s148))))))
set_option maxHeartbeats 4000000 in
theorem A_L_make_b133 (K : KT) {N : Nat} (hN : NT ≤ N) (Ln : Nat) (xs : Nat → Int32) (hX : KX K Ln xs)  : ∀ (k : Nat) (x2 : Int32) (x6 : Int32) (x7 : Int32) (x8 : Int32) (x9 : Int32) (σ : Sg), AG K mL_make N (fun a : Int32 × Sg => (some (.int a.1), N, R0, a.2)) (J_L_make_b133 Ln xs   k x2 x6 x7 x8 x9 σ) 133 [some (.ref 0), some (.retAddr 1), some (.int x2), none, some (.ref 141), some (.ref 142), some (.int x6), some (.int x7), some (.int x8), some (.int x9), none, none, none, none, none, none] [] σ := by
  intro k
  induction k with
  | zero => intro x2 x6 x7 x8 x9 σ; exact ag_none
  | succ k ih =>
    intro x2 x6 x7 x8 x9 σ
    rw [J_L_make_b133]
    refine ag_iload_9 (q := 135) dL_make_133 rfl ?_
    refine ag_iload_8 (q := 137) dL_make_135 rfl ?_
    refine ag_icmp_ge (tgt := 358) (q := 140) dL_make_137 rfl rfl ?_ ?_
    · refine ag_iconst (q := 359) (v := 1) dL_make_358 rfl (by decide) ?_
      refine ag_iload_6 (q := 361) dL_make_359 rfl ?_
      refine ag_bipush (q := 363) (v := 6) dL_make_361 rfl (by decide) ?_
      refine ag_ishr (q := 364) dL_make_363 rfl ?_
      refine ag_bipush (q := 366) (v := 8) dL_make_364 rfl (by decide) ?_
      refine ag_callS_pI (q := 369) (av := [.int _, .int _]) (rest := [.int _]) dL_make_366 rfl lkL_29 (C_L_low hN (x6 >>> ((6 : Int32) &&& 31)) (8 : Int32) _) (by decide) (Nat.le_of_ble_eq_true rfl) (fun _ => rfl) (Nat.le_of_ble_eq_true rfl) rfl (fun r366 e366 => ?_)
      refine ag_iadd (q := 370) dL_make_369 rfl ?_
      refine ag_istore_9 (q := 372) dL_make_370 rfl (Nat.le_of_ble_eq_true rfl) rfl ?_
      refine ag_iconst (q := 373) (v := 0) dL_make_372 rfl (by decide) ?_
      refine ag_istore_10 (q := 375) dL_make_373 rfl (Nat.le_of_ble_eq_true rfl) rfl ?_
      refine ag_kill_8 ?_
      exact A_L_make_b375 K hN Ln xs hX   FU x2 x6 x7 ((1 : Int32) + r366) (0 : Int32) σ
    refine ag_iload_7 (q := 142) dL_make_140 rfl ?_
    refine ag_if_eq (tgt := 158) (q := 145) dL_make_142 rfl rfl ?_ ?_
    · refine ag_iconst (q := 159) (v := 0) dL_make_158 rfl (by decide) ?_
      refine ag_istore_7 (q := 161) dL_make_159 rfl (Nat.le_of_ble_eq_true rfl) rfl ?_
      refine ag_xload_1 (q := 162) dL_make_161 rfl ?_
      refine ag_iload_2 (q := 163) dL_make_162 rfl ?_
      refine ag_iconst (q := 164) (v := 1) dL_make_163 rfl (by decide) ?_
      refine ag_iadd (q := 165) dL_make_164 rfl ?_
      refine ag_iload_9 (q := 167) dL_make_165 rfl ?_
      refine ag_iadd (q := 168) dL_make_167 rfl ?_
      refine ag_callSX_pI hX (q := 171) (av := [.retAddr _, .int _]) (rest := []) dL_make_168 rfl lkL_21 (C_L_cell hN Ln xs ((x2 + (1 : Int32)) + x9) _) (by decide) (Nat.le_of_ble_eq_true rfl) (Nat.le_of_ble_eq_true rfl) rfl (fun r168 e168 => ?_)
      refine ag_istore_10 (q := 173) dL_make_171 rfl (Nat.le_of_ble_eq_true rfl) rfl ?_
      refine ag_iconst (q := 174) (v := 0) dL_make_173 rfl (by decide) ?_
      refine ag_istore_11 (q := 176) dL_make_174 rfl (Nat.le_of_ble_eq_true rfl) rfl ?_
      exact A_L_make_b176 K hN Ln xs hX  (fun x2 x6 x7 x8 x9 σ => J_L_make_b133 Ln xs   k x2 x6 x7 x8 x9 σ) (fun x2 x6 x7 x8 x9 σ => ih x2 x6 x7 x8 x9 σ) FU x2 x6 (0 : Int32) x8 x9 r168 (0 : Int32) σ
    refine ag_aload_0 (q := 146) dL_make_145 rfl ?_
    refine ag_bipush (q := 148) (v := 114) dL_make_146 rfl (by decide) ?_
    refine ag_callV_mI (q := 151) (av := [.int _]) (rest := []) dL_make_148 rfl lkL_9 (C_X7_write (Nat.le_trans (by decide) hN) (114 : Int32) _) (by decide) (Nat.le_of_ble_eq_true rfl) (Nat.lt_of_lt_of_le (by decide : 0 < NT) hN) (congrArg Prod.fst s_0) (by decide) (fun _ => rfl) (Nat.le_of_ble_eq_true rfl) rfl (fun r148 s148 e148 => ?_)
    refine ag_if_le (tgt := 158) (q := 154) dL_make_151 rfl rfl ?_ ?_
    · refine ag_iconst (q := 159) (v := 0) dL_make_158 rfl (by decide) ?_
      refine ag_istore_7 (q := 161) dL_make_159 rfl (Nat.le_of_ble_eq_true rfl) rfl ?_
      refine ag_xload_1 (q := 162) dL_make_161 rfl ?_
      refine ag_iload_2 (q := 163) dL_make_162 rfl ?_
      refine ag_iconst (q := 164) (v := 1) dL_make_163 rfl (by decide) ?_
      refine ag_iadd (q := 165) dL_make_164 rfl ?_
      refine ag_iload_9 (q := 167) dL_make_165 rfl ?_
      refine ag_iadd (q := 168) dL_make_167 rfl ?_
      refine ag_callSX_pI hX (q := 171) (av := [.retAddr _, .int _]) (rest := []) dL_make_168 rfl lkL_21 (C_L_cell hN Ln xs ((x2 + (1 : Int32)) + x9) _) (by decide) (Nat.le_of_ble_eq_true rfl) (Nat.le_of_ble_eq_true rfl) rfl (fun r168 e168 => ?_)
      refine ag_istore_10 (q := 173) dL_make_171 rfl (Nat.le_of_ble_eq_true rfl) rfl ?_
      refine ag_iconst (q := 174) (v := 0) dL_make_173 rfl (by decide) ?_
      refine ag_istore_11 (q := 176) dL_make_174 rfl (Nat.le_of_ble_eq_true rfl) rfl ?_
      exact A_L_make_b176 K hN Ln xs hX  (fun x2 x6 x7 x8 x9 σ => J_L_make_b133 Ln xs   k x2 x6 x7 x8 x9 σ) (fun x2 x6 x7 x8 x9 σ => ih x2 x6 x7 x8 x9 σ) FU x2 x6 (0 : Int32) x8 x9 r168 (0 : Int32) s148
    refine ag_iconst (q := 155) (v := 1) dL_make_154 rfl (by decide) ?_
    refine ag_goto (q := 159) dL_make_155 rfl ?_
    refine ag_istore_7 (q := 161) dL_make_159 rfl (Nat.le_of_ble_eq_true rfl) rfl ?_
    refine ag_xload_1 (q := 162) dL_make_161 rfl ?_
    refine ag_iload_2 (q := 163) dL_make_162 rfl ?_
    refine ag_iconst (q := 164) (v := 1) dL_make_163 rfl (by decide) ?_
    refine ag_iadd (q := 165) dL_make_164 rfl ?_
    refine ag_iload_9 (q := 167) dL_make_165 rfl ?_
    refine ag_iadd (q := 168) dL_make_167 rfl ?_
    refine ag_callSX_pI hX (q := 171) (av := [.retAddr _, .int _]) (rest := []) dL_make_168 rfl lkL_21 (C_L_cell hN Ln xs ((x2 + (1 : Int32)) + x9) _) (by decide) (Nat.le_of_ble_eq_true rfl) (Nat.le_of_ble_eq_true rfl) rfl (fun r168 e168 => ?_)
    refine ag_istore_10 (q := 173) dL_make_171 rfl (Nat.le_of_ble_eq_true rfl) rfl ?_
    refine ag_iconst (q := 174) (v := 0) dL_make_173 rfl (by decide) ?_
    refine ag_istore_11 (q := 176) dL_make_174 rfl (Nat.le_of_ble_eq_true rfl) rfl ?_
    exact A_L_make_b176 K hN Ln xs hX  (fun x2 x6 x7 x8 x9 σ => J_L_make_b133 Ln xs   k x2 x6 x7 x8 x9 σ) (fun x2 x6 x7 x8 x9 σ => ih x2 x6 x7 x8 x9 σ) FU x2 x6 (1 : Int32) x8 x9 r168 (0 : Int32) s148
def J_L_make_b46 (Ln : Nat) (xs : Nat → Int32)  : Nat → Int32 → Int32 → Int32 → Int32 → Int32 → Sg → Option (Int32 × Sg)
  | 0, _, _, _, _, _, _ => none
  | k + 1, x2, x3, x6, x7, x8, σ =>
    (if (54 : Int32) ≤ x8 then (bd1 (J_L_low x6 x3 σ) fun r88 => (bd1 (J_L_low (x6 >>> ((3 : Int32) &&& 31)) x3 σ) fun r103 => (J_L_make_b133 Ln xs   FU x2 x6 x7 ((1 : Int32) + r88) (0 : Int32) (up (up (up (up σ 141 1 ((1 : Int32) + r103)) 141 0 (((1 : Int32) + r88) * ((up σ 141 1 ((1 : Int32) + r103)) 141 1))) 141 3 (-4 : Int32)) 141 4 (4 : Int32))))) else (if x8 ≤ (36 : Int32) then (if inb x8 54 = true then (J_L_make_b46 Ln xs   k x2 x3 x6 x7 (x8 + (1)) (up σ 142 x8.toNatClampNeg (0 : Int32))) else none) else (if (45 : Int32) ≤ x8 then (if inb x8 54 = true then (J_L_make_b46 Ln xs   k x2 x3 x6 x7 (x8 + (1)) (up σ 142 x8.toNatClampNeg (0 : Int32))) else none) else (if inb x8 54 = true then (J_L_make_b46 Ln xs   k x2 x3 x6 x7 (x8 + (1)) (up σ 142 x8.toNatClampNeg (36 : Int32))) else none))))
set_option maxHeartbeats 4000000 in
theorem A_L_make_b46 (K : KT) {N : Nat} (hN : NT ≤ N) (Ln : Nat) (xs : Nat → Int32) (hX : KX K Ln xs)  : ∀ (k : Nat) (x2 : Int32) (x3 : Int32) (x6 : Int32) (x7 : Int32) (x8 : Int32) (σ : Sg), AG K mL_make N (fun a : Int32 × Sg => (some (.int a.1), N, R0, a.2)) (J_L_make_b46 Ln xs   k x2 x3 x6 x7 x8 σ) 46 [some (.ref 0), some (.retAddr 1), some (.int x2), some (.int x3), some (.ref 141), some (.ref 142), some (.int x6), some (.int x7), some (.int x8), none, none, none, none, none, none, none] [] σ := by
  intro k
  induction k with
  | zero => intro x2 x3 x6 x7 x8 σ; exact ag_none
  | succ k ih =>
    intro x2 x3 x6 x7 x8 σ
    rw [J_L_make_b46]
    refine ag_iload_8 (q := 48) dL_make_46 rfl ?_
    refine ag_bipush (q := 50) (v := 54) dL_make_48 rfl (by decide) ?_
    refine ag_icmp_ge (tgt := 84) (q := 53) dL_make_50 rfl rfl ?_ ?_
    · refine ag_iconst (q := 85) (v := 1) dL_make_84 rfl (by decide) ?_
      refine ag_iload_6 (q := 87) dL_make_85 rfl ?_
      refine ag_iload_3 (q := 88) dL_make_87 rfl ?_
      refine ag_callS_pI (q := 91) (av := [.int _, .int _]) (rest := [.int _]) dL_make_88 rfl lkL_29 (C_L_low hN x6 x3 _) (by decide) (Nat.le_of_ble_eq_true rfl) (fun _ => rfl) (Nat.le_of_ble_eq_true rfl) rfl (fun r88 e88 => ?_)
      refine ag_iadd (q := 92) dL_make_91 rfl ?_
      refine ag_istore_8 (q := 94) dL_make_92 rfl (Nat.le_of_ble_eq_true rfl) rfl ?_
      refine ag_aload_4 (q := 96) dL_make_94 rfl ?_
      refine ag_iconst (q := 97) (v := 1) dL_make_96 rfl (by decide) ?_
      refine ag_iconst (q := 98) (v := 1) dL_make_97 rfl (by decide) ?_
      refine ag_iload_6 (q := 100) dL_make_98 rfl ?_
      refine ag_iconst (q := 101) (v := 3) dL_make_100 rfl (by decide) ?_
      refine ag_ishr (q := 102) dL_make_101 rfl ?_
      refine ag_iload_3 (q := 103) dL_make_102 rfl ?_
      refine ag_callS_pI (q := 106) (av := [.int _, .int _]) (rest := [.int _, .int _, .ref _]) dL_make_103 rfl lkL_29 (C_L_low hN (x6 >>> ((3 : Int32) &&& 31)) x3 _) (by decide) (Nat.le_of_ble_eq_true rfl) (fun _ => rfl) (Nat.le_of_ble_eq_true rfl) rfl (fun r103 e103 => ?_)
      refine ag_iadd (q := 107) dL_make_106 rfl ?_
      refine ag_iastK (q := 108) (k := 1) dL_make_107 rfl (Nat.lt_of_lt_of_le (by decide : 141 < NT) hN) s_141 (by decide) (by decide) ?_
      refine ag_aload_4 (q := 110) dL_make_108 rfl ?_
      refine ag_iconst (q := 111) (v := 0) dL_make_110 rfl (by decide) ?_
      refine ag_iload_8 (q := 113) dL_make_111 rfl ?_
      refine ag_aload_4 (q := 115) dL_make_113 rfl ?_
      refine ag_iconst (q := 116) (v := 1) dL_make_115 rfl (by decide) ?_
      refine ag_ialdK (q := 117) (k := 1) dL_make_116 rfl (Nat.lt_of_lt_of_le (by decide : 141 < NT) hN) s_141 (by decide) (by decide) ?_
      refine ag_imul (q := 118) dL_make_117 rfl ?_
      refine ag_iastK (q := 119) (k := 0) dL_make_118 rfl (Nat.lt_of_lt_of_le (by decide : 141 < NT) hN) s_141 (by decide) (by decide) ?_
      refine ag_aload_4 (q := 121) dL_make_119 rfl ?_
      refine ag_iconst (q := 122) (v := 3) dL_make_121 rfl (by decide) ?_
      refine ag_bipush (q := 124) (v := -4) dL_make_122 rfl (by decide) ?_
      refine ag_iastK (q := 125) (k := 3) dL_make_124 rfl (Nat.lt_of_lt_of_le (by decide : 141 < NT) hN) s_141 (by decide) (by decide) ?_
      refine ag_aload_4 (q := 127) dL_make_125 rfl ?_
      refine ag_iconst (q := 128) (v := 4) dL_make_127 rfl (by decide) ?_
      refine ag_iconst (q := 129) (v := 4) dL_make_128 rfl (by decide) ?_
      refine ag_iastK (q := 130) (k := 4) dL_make_129 rfl (Nat.lt_of_lt_of_le (by decide : 141 < NT) hN) s_141 (by decide) (by decide) ?_
      refine ag_iconst (q := 131) (v := 0) dL_make_130 rfl (by decide) ?_
      refine ag_istore_9 (q := 133) dL_make_131 rfl (Nat.le_of_ble_eq_true rfl) rfl ?_
      refine ag_kill_3 ?_
      exact A_L_make_b133 K hN Ln xs hX   FU x2 x6 x7 ((1 : Int32) + r88) (0 : Int32) (up (up (up (up σ 141 1 ((1 : Int32) + r103)) 141 0 (((1 : Int32) + r88) * ((up σ 141 1 ((1 : Int32) + r103)) 141 1))) 141 3 (-4 : Int32)) 141 4 (4 : Int32))
    refine ag_aload_5 (q := 55) dL_make_53 rfl ?_
    refine ag_iload_8 (q := 57) dL_make_55 rfl ?_
    refine ag_iload_8 (q := 59) dL_make_57 rfl ?_
    refine ag_bipush (q := 61) (v := 36) dL_make_59 rfl (by decide) ?_
    refine ag_icmp_le (tgt := 76) (q := 64) dL_make_61 rfl rfl ?_ ?_
    · refine ag_iconst (q := 77) (v := 0) dL_make_76 rfl (by decide) ?_
      refine ag_iast (q := 78) dL_make_77 rfl (Nat.lt_of_lt_of_le (by decide : 142 < NT) hN) s_142 ?_
      refine ag_iinc_8 (q := 81) (d := (1)) dL_make_78 rfl (Nat.le_of_ble_eq_true rfl) rfl (by decide) ?_
      refine ag_goto (q := 46) dL_make_81 rfl ?_
      exact ih x2 x3 x6 x7 (x8 + (1)) (up σ 142 x8.toNatClampNeg (0 : Int32))
    refine ag_iload_8 (q := 66) dL_make_64 rfl ?_
    refine ag_bipush (q := 68) (v := 45) dL_make_66 rfl (by decide) ?_
    refine ag_icmp_ge (tgt := 76) (q := 71) dL_make_68 rfl rfl ?_ ?_
    · refine ag_iconst (q := 77) (v := 0) dL_make_76 rfl (by decide) ?_
      refine ag_iast (q := 78) dL_make_77 rfl (Nat.lt_of_lt_of_le (by decide : 142 < NT) hN) s_142 ?_
      refine ag_iinc_8 (q := 81) (d := (1)) dL_make_78 rfl (Nat.le_of_ble_eq_true rfl) rfl (by decide) ?_
      refine ag_goto (q := 46) dL_make_81 rfl ?_
      exact ih x2 x3 x6 x7 (x8 + (1)) (up σ 142 x8.toNatClampNeg (0 : Int32))
    refine ag_bipush (q := 73) (v := 36) dL_make_71 rfl (by decide) ?_
    refine ag_goto (q := 77) dL_make_73 rfl ?_
    refine ag_iast (q := 78) dL_make_77 rfl (Nat.lt_of_lt_of_le (by decide : 142 < NT) hN) s_142 ?_
    refine ag_iinc_8 (q := 81) (d := (1)) dL_make_78 rfl (Nat.le_of_ble_eq_true rfl) rfl (by decide) ?_
    refine ag_goto (q := 46) dL_make_81 rfl ?_
    exact ih x2 x3 x6 x7 (x8 + (1)) (up σ 142 x8.toNatClampNeg (36 : Int32))
def J_L_make_b24 (Ln : Nat) (xs : Nat → Int32)  : Nat → Int32 → Int32 → Int32 → Int32 → Int32 → Sg → Option (Int32 × Sg)
  | 0, _, _, _, _, _, _ => none
  | k + 1, x2, x3, x6, x7, x8, σ =>
    (if (22 : Int32) ≤ x8 then (J_L_make_b46 Ln xs   FU x2 x3 x6 x7 (0 : Int32) σ) else (if inb x8 22 = true then (J_L_make_b24 Ln xs   k x2 x3 x6 x7 (x8 + (1)) (up σ 141 x8.toNatClampNeg (0 : Int32))) else none))
set_option maxHeartbeats 4000000 in
theorem A_L_make_b24 (K : KT) {N : Nat} (hN : NT ≤ N) (Ln : Nat) (xs : Nat → Int32) (hX : KX K Ln xs)  : ∀ (k : Nat) (x2 : Int32) (x3 : Int32) (x6 : Int32) (x7 : Int32) (x8 : Int32) (σ : Sg), AG K mL_make N (fun a : Int32 × Sg => (some (.int a.1), N, R0, a.2)) (J_L_make_b24 Ln xs   k x2 x3 x6 x7 x8 σ) 24 [some (.ref 0), some (.retAddr 1), some (.int x2), some (.int x3), some (.ref 141), some (.ref 142), some (.int x6), some (.int x7), some (.int x8), none, none, none, none, none, none, none] [] σ := by
  intro k
  induction k with
  | zero => intro x2 x3 x6 x7 x8 σ; exact ag_none
  | succ k ih =>
    intro x2 x3 x6 x7 x8 σ
    rw [J_L_make_b24]
    refine ag_iload_8 (q := 26) dL_make_24 rfl ?_
    refine ag_bipush (q := 28) (v := 22) dL_make_26 rfl (by decide) ?_
    refine ag_icmp_ge (tgt := 43) (q := 31) dL_make_28 rfl rfl ?_ ?_
    · refine ag_iconst (q := 44) (v := 0) dL_make_43 rfl (by decide) ?_
      refine ag_istore_8 (q := 46) dL_make_44 rfl (Nat.le_of_ble_eq_true rfl) rfl ?_
      exact A_L_make_b46 K hN Ln xs hX   FU x2 x3 x6 x7 (0 : Int32) σ
    refine ag_aload_4 (q := 33) dL_make_31 rfl ?_
    refine ag_iload_8 (q := 35) dL_make_33 rfl ?_
    refine ag_iconst (q := 36) (v := 0) dL_make_35 rfl (by decide) ?_
    refine ag_iast (q := 37) dL_make_36 rfl (Nat.lt_of_lt_of_le (by decide : 141 < NT) hN) s_141 ?_
    refine ag_iinc_8 (q := 40) (d := (1)) dL_make_37 rfl (Nat.le_of_ble_eq_true rfl) rfl (by decide) ?_
    refine ag_goto (q := 24) dL_make_40 rfl ?_
    exact ih x2 x3 x6 x7 (x8 + (1)) (up σ 141 x8.toNatClampNeg (0 : Int32))
def J_L_make (Ln : Nat) (xs : Nat → Int32) (a2 : Int32) (a3 : Int32) (σ : Sg) : Option (Int32 × Sg) :=
  (bd1 (J_L_cell Ln xs a2 σ) fun r2 => (bd2 (J_X7_wipe  σ) fun r8 s8 => (if r8 < 0 then (J_L_make_b24 Ln xs   FU a2 a3 r2 (0 : Int32) (0 : Int32) s8) else (J_L_make_b24 Ln xs   FU a2 a3 r2 (1 : Int32) (0 : Int32) s8))))
set_option maxHeartbeats 4000000 in
theorem A_L_make (K : KT) {N : Nat} (hN : NT ≤ N) (Ln : Nat) (xs : Nat → Int32) (hX : KX K Ln xs) (a2 : Int32) (a3 : Int32) (σ : Sg) : AG K mL_make N (fun a : Int32 × Sg => (some (.int a.1), N, R0, a.2)) (J_L_make Ln xs a2 a3 σ) 0 [some (.ref 0), some (.retAddr 1), some (.int a2), some (.int a3), some (.ref 141), some (.ref 142), none, none, none, none, none, none, none, none, none, none] [] σ := by
  unfold J_L_make
  refine ag_xload_1 (q := 1) dL_make_0 rfl ?_
  refine ag_iload_2 (q := 2) dL_make_1 rfl ?_
  refine ag_callSX_pI hX (q := 5) (av := [.retAddr _, .int _]) (rest := []) dL_make_2 rfl lkL_21 (C_L_cell hN Ln xs a2 _) (by decide) (Nat.le_of_ble_eq_true rfl) (Nat.le_of_ble_eq_true rfl) rfl (fun r2 e2 => ?_)
  refine ag_istore_6 (q := 7) dL_make_5 rfl (Nat.le_of_ble_eq_true rfl) rfl ?_
  refine ag_aload_0 (q := 8) dL_make_7 rfl ?_
  refine ag_callV_mI (q := 11) (av := []) (rest := []) dL_make_8 rfl lkL_25 (C_X7_wipe (Nat.le_trans (by decide) hN)  _) (by decide) (Nat.le_of_ble_eq_true rfl) (Nat.lt_of_lt_of_le (by decide : 0 < NT) hN) (congrArg Prod.fst s_0) (by decide) (fun _ => rfl) (Nat.le_of_ble_eq_true rfl) rfl (fun r8 s8 e8 => ?_)
  refine ag_if_lt (tgt := 18) (q := 14) dL_make_11 rfl rfl ?_ ?_
  · refine ag_iconst (q := 19) (v := 0) dL_make_18 rfl (by decide) ?_
    refine ag_istore_7 (q := 21) dL_make_19 rfl (Nat.le_of_ble_eq_true rfl) rfl ?_
    refine ag_iconst (q := 22) (v := 0) dL_make_21 rfl (by decide) ?_
    refine ag_istore_8 (q := 24) dL_make_22 rfl (Nat.le_of_ble_eq_true rfl) rfl ?_
    exact A_L_make_b24 K hN Ln xs hX   FU a2 a3 r2 (0 : Int32) (0 : Int32) s8
  refine ag_iconst (q := 15) (v := 1) dL_make_14 rfl (by decide) ?_
  refine ag_goto (q := 19) dL_make_15 rfl ?_
  refine ag_istore_7 (q := 21) dL_make_19 rfl (Nat.le_of_ble_eq_true rfl) rfl ?_
  refine ag_iconst (q := 22) (v := 0) dL_make_21 rfl (by decide) ?_
  refine ag_istore_8 (q := 24) dL_make_22 rfl (Nat.le_of_ble_eq_true rfl) rfl ?_
  exact A_L_make_b24 K hN Ln xs hX   FU a2 a3 r2 (1 : Int32) (0 : Int32) s8
theorem C_L_make {N : Nat} (hN : NT ≤ N) (Ln : Nat) (xs : Nat → Int32) (a2 : Int32) (a3 : Int32) (σ : Sg) : ∀ r s', J_L_make Ln xs a2 a3 σ = some (r, s') → AMx Ln xs yL_make mL_make [.ref 0, .retAddr 1, .int a2, .int a3, .ref 141, .ref 142] N R0 σ (some (.int r), N, R0, s') := fun r s' e => AMx.of (L := [some (.ref 0), some (.retAddr 1), some (.int a2), some (.int a3), some (.ref 141), some (.ref 142), none, none, none, none, none, none, none, none, none, none]) (by decide) rfl (fun _ => rfl) (fun _ => Nat.le_of_ble_eq_true rfl) (Nat.le_refl _) (fun K hX => A_L_make K hN Ln xs hX a2 a3 σ _ e (Nat.le_refl _))
