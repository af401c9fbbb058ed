def J_X5_readItem  (σ : Sg) : Option (Int32 × Sg) :=
  (bd1 (J_X5_letterAtHead  σ) fun r1 => (if r1 = 98 then (bd2 (J_X5_readBeast  (up σ 4 4 ((σ 4 4) + (1 : Int32)))) fun r74 s74 => (if r74 = 0 ∨ r74 = 1 then some (r74, s74) else none)) else (if r1 = 104 then (bd2 (J_X5_readHunger  (up σ 4 4 ((σ 4 4) + (1 : Int32)))) fun r84 s84 => (if r84 = 0 ∨ r84 = 1 then some (r84, s84) else none)) else (if r1 = 114 then (bd2 (J_X5_readRow  (up σ 4 4 ((σ 4 4) + (1 : Int32)))) fun r69 s69 => (if r69 = 0 ∨ r69 = 1 then some (r69, s69) else none)) else (if r1 = 115 then (bd2 (J_X5_readSnow  (up σ 4 4 ((σ 4 4) + (1 : Int32)))) fun r89 s89 => (if r89 = 0 ∨ r89 = 1 then some (r89, s89) else none)) else (if r1 = 119 then (bd2 (J_X5_readWell  (up σ 4 4 ((σ 4 4) + (1 : Int32)))) fun r79 s79 => (if r79 = 0 ∨ r79 = 1 then some (r79, s79) else none)) else (some ((0 : Int32), (up σ 4 4 ((σ 4 4) + (1 : Int32)))))))))))
set_option maxHeartbeats 4000000 in
theorem A_X5_readItem (K : KT) {N : Nat} (hN : NC ≤ N)  (σ : Sg) : AG K mX5_readItem N (fun a : Int32 × Sg => (some (.int a.1), N, R0, a.2)) (J_X5_readItem  σ) 0 [some (.ref 4), none] [] σ := by
  unfold J_X5_readItem
  refine ag_aload_0 (q := 1) dX5_readItem_0 rfl ?_
  refine ag_callV_pI (q := 4) (av := []) (rest := []) dX5_readItem_1 rfl lk5_48 (C_X5_letterAtHead hN  _) (by decide) (Nat.le_of_ble_eq_true rfl) (Nat.lt_of_lt_of_le (by decide : 4 < NC) hN) (congrArg Prod.fst s_4) (by decide) (fun _ => rfl) (Nat.le_of_ble_eq_true rfl) rfl (fun r1 e1 => ?_)
  refine ag_istore_1 (q := 5) dX5_readItem_4 rfl (Nat.le_of_ble_eq_true rfl) rfl ?_
  refine ag_aload_0 (q := 6) dX5_readItem_5 rfl ?_
  refine ag_dup (q := 7) dX5_readItem_6 rfl rfl ?_
  refine ag_getI (q := 10) dX5_readItem_7 rfl fl5_35 (Nat.lt_of_lt_of_le (by decide : 4 < NC) hN) (congrArg Prod.fst s_4) rfl ?_
  refine ag_iconst (q := 11) (v := 1) dX5_readItem_10 rfl (by decide) ?_
  refine ag_iadd (q := 12) dX5_readItem_11 rfl ?_
  refine ag_putI (q := 15) dX5_readItem_12 rfl fl5_35 (Nat.lt_of_lt_of_le (by decide : 4 < NC) hN) (congrArg Prod.fst s_4) rfl ?_
  refine ag_iload_1 (q := 16) dX5_readItem_15 rfl ?_
  refine ag_ite (fun z98 => ?_) (fun z98 => ?_)
  · refine ag_lsw (q := 73) (off := 57) dX5_readItem_16 (by decide) (by rw [z98]; rfl) rfl ?_
    refine ag_aload_0 (q := 74) dX5_readItem_73 rfl ?_
    refine ag_callV_mI (q := 77) (av := []) (rest := []) dX5_readItem_74 rfl lk5_55 (C_X5_readBeast hN  _) (by decide) (Nat.le_of_ble_eq_true rfl) (Nat.lt_of_lt_of_le (by decide : 4 < NC) hN) (congrArg Prod.fst s_4) (by decide) (fun _ => rfl) (Nat.le_of_ble_eq_true rfl) rfl (fun r74 s74 e74 => ?_)
    exact ag_zret dX5_readItem_77 rfl rfl
  refine ag_ite (fun z104 => ?_) (fun z104 => ?_)
  · refine ag_lsw (q := 83) (off := 67) dX5_readItem_16 (by decide) (by rw [z104]; rfl) rfl ?_
    refine ag_aload_0 (q := 84) dX5_readItem_83 rfl ?_
    refine ag_callV_mI (q := 87) (av := []) (rest := []) dX5_readItem_84 rfl lk5_61 (C_X5_readHunger hN  _) (by decide) (Nat.le_of_ble_eq_true rfl) (Nat.lt_of_lt_of_le (by decide : 4 < NC) hN) (congrArg Prod.fst s_4) (by decide) (fun _ => rfl) (Nat.le_of_ble_eq_true rfl) rfl (fun r84 s84 e84 => ?_)
    exact ag_zret dX5_readItem_87 rfl rfl
  refine ag_ite (fun z114 => ?_) (fun z114 => ?_)
  · refine ag_lsw (q := 68) (off := 52) dX5_readItem_16 (by decide) (by rw [z114]; rfl) rfl ?_
    refine ag_aload_0 (q := 69) dX5_readItem_68 rfl ?_
    refine ag_callV_mI (q := 72) (av := []) (rest := []) dX5_readItem_69 rfl lk5_52 (C_X5_readRow hN  _) (by decide) (Nat.le_of_ble_eq_true rfl) (Nat.lt_of_lt_of_le (by decide : 4 < NC) hN) (congrArg Prod.fst s_4) (by decide) (fun _ => rfl) (Nat.le_of_ble_eq_true rfl) rfl (fun r69 s69 e69 => ?_)
    exact ag_zret dX5_readItem_72 rfl rfl
  refine ag_ite (fun z115 => ?_) (fun z115 => ?_)
  · refine ag_lsw (q := 88) (off := 72) dX5_readItem_16 (by decide) (by rw [z115]; rfl) rfl ?_
    refine ag_aload_0 (q := 89) dX5_readItem_88 rfl ?_
    refine ag_callV_mI (q := 92) (av := []) (rest := []) dX5_readItem_89 rfl lk5_64 (C_X5_readSnow hN  _) (by decide) (Nat.le_of_ble_eq_true rfl) (Nat.lt_of_lt_of_le (by decide : 4 < NC) hN) (congrArg Prod.fst s_4) (by decide) (fun _ => rfl) (Nat.le_of_ble_eq_true rfl) rfl (fun r89 s89 e89 => ?_)
    exact ag_zret dX5_readItem_92 rfl rfl
  refine ag_ite (fun z119 => ?_) (fun z119 => ?_)
  · refine ag_lsw (q := 78) (off := 62) dX5_readItem_16 (by decide) (by rw [z119]; rfl) rfl ?_
    refine ag_aload_0 (q := 79) dX5_readItem_78 rfl ?_
    refine ag_callV_mI (q := 82) (av := []) (rest := []) dX5_readItem_79 rfl lk5_58 (C_X5_readWell hN  _) (by decide) (Nat.le_of_ble_eq_true rfl) (Nat.lt_of_lt_of_le (by decide : 4 < NC) hN) (congrArg Prod.fst s_4) (by decide) (fun _ => rfl) (Nat.le_of_ble_eq_true rfl) rfl (fun r79 s79 e79 => ?_)
    exact ag_zret dX5_readItem_82 rfl rfl
  refine ag_lsw (q := 93) (off := 77) dX5_readItem_16 (by decide) (by refine (lv_osw z98 (by decide)).trans ?_; refine (lv_osw z104 (by decide)).trans ?_; refine (lv_osw z114 (by decide)).trans ?_; refine (lv_osw z115 (by decide)).trans ?_; refine (lv_osw z119 (by decide)).trans ?_; rfl) rfl ?_
  refine ag_iconst (q := 94) (v := 0) dX5_readItem_93 rfl (by decide) ?_
  exact ag_zretK dX5_readItem_94 rfl (by decide) rfl
theorem C_X5_readItem {N : Nat} (hN : NC ≤ N)  (σ : Sg) : ∀ r s', J_X5_readItem  σ = some (r, s') → AMc yX5_readItem mX5_readItem [.ref 4] N R0 σ (some (.int r), N, R0, s') := fun r s' e => AMc.of (L := [some (.ref 4), none]) (by decide) rfl (fun _ => rfl) (fun _ => Nat.le_of_ble_eq_true rfl) (Nat.le_refl _) (fun K => A_X5_readItem K hN  σ _ e (Nat.le_refl _))
def J_X5_firstFault_b22  : Nat → Int32 → Sg → Option (Int32 × Sg)
  | 0, _, _ => none
  | k + 1, x1, σ =>
    (if (200 : Int32) ≤ x1 then (some ((-4 : Int32), σ)) else (if (σ 4 3) ≤ (σ 4 4) then (some ((-4 : Int32), σ)) else (bd2 (J_X5_readItem  σ) fun r46 s46 => (if r46 = 0 then (some ((σ 4 4), s46)) else (J_X5_firstFault_b22   k (x1 + (1)) s46)))))
set_option maxHeartbeats 4000000 in
theorem A_X5_firstFault_b22 (K : KT) {N : Nat} (hN : NC ≤ N)  : ∀ (k : Nat) (x1 : Int32) (σ : Sg), AG K mX5_firstFault N (fun a : Int32 × Sg => (some (.int a.1), N, R0, a.2)) (J_X5_firstFault_b22   k x1 σ) 22 [some (.ref 4), some (.int x1), none] [] σ := by
  intro k
  induction k with
  | zero => intro x1 σ; exact ag_none
  | succ k ih =>
    intro x1 σ
    rw [J_X5_firstFault_b22]
    refine ag_iload_1 (q := 23) dX5_firstFault_22 rfl ?_
    refine ag_sipush (q := 26) (v := 200) dX5_firstFault_23 rfl (by decide) ?_
    refine ag_icmp_ge (tgt := 60) (q := 29) dX5_firstFault_26 rfl rfl ?_ ?_
    · refine ag_bipush (q := 62) (v := -4) dX5_firstFault_60 rfl (by decide) ?_
      exact ag_iret dX5_firstFault_62 rfl rfl
    refine ag_aload_0 (q := 30) dX5_firstFault_29 rfl ?_
    refine ag_getI (q := 33) dX5_firstFault_30 rfl fl5_35 (Nat.lt_of_lt_of_le (by decide : 4 < NC) hN) (congrArg Prod.fst s_4) rfl ?_
    refine ag_aload_0 (q := 34) dX5_firstFault_33 rfl ?_
    refine ag_getI (q := 37) dX5_firstFault_34 rfl fl5_31 (Nat.lt_of_lt_of_le (by decide : 4 < NC) hN) (congrArg Prod.fst s_4) rfl ?_
    refine ag_icmp_ge (tgt := 60) (q := 40) dX5_firstFault_37 rfl rfl ?_ ?_
    · refine ag_bipush (q := 62) (v := -4) dX5_firstFault_60 rfl (by decide) ?_
      exact ag_iret dX5_firstFault_62 rfl rfl
    refine ag_aload_0 (q := 41) dX5_firstFault_40 rfl ?_
    refine ag_getI (q := 44) dX5_firstFault_41 rfl fl5_35 (Nat.lt_of_lt_of_le (by decide : 4 < NC) hN) (congrArg Prod.fst s_4) rfl ?_
    refine ag_istore_2 (q := 45) dX5_firstFault_44 rfl (Nat.le_of_ble_eq_true rfl) rfl ?_
    refine ag_aload_0 (q := 46) dX5_firstFault_45 rfl ?_
    refine ag_callV_mI (q := 49) (av := []) (rest := []) dX5_firstFault_46 rfl lk5_44 (C_X5_readItem hN  _) (by decide) (Nat.le_of_ble_eq_true rfl) (Nat.lt_of_lt_of_le (by decide : 4 < NC) hN) (congrArg Prod.fst s_4) (by decide) (fun _ => rfl) (Nat.le_of_ble_eq_true rfl) rfl (fun r46 s46 e46 => ?_)
    refine ag_if_ne (tgt := 54) (q := 52) dX5_firstFault_49 rfl rfl ?_ ?_
    · refine ag_iinc_1 (q := 57) (d := (1)) dX5_firstFault_54 rfl (Nat.le_of_ble_eq_true rfl) rfl (by decide) ?_
      refine ag_goto (q := 22) dX5_firstFault_57 rfl ?_
      refine ag_kill_2 ?_
      exact ih (x1 + (1)) s46
    refine ag_iload_2 (q := 53) dX5_firstFault_52 rfl ?_
    exact ag_iret dX5_firstFault_53 rfl rfl
def J_X5_firstFault  (σ : Sg) : Option (Int32 × Sg) :=
  (bd2 (J_X1_clear 6 σ) fun r4 s4 => (J_X5_firstFault_b22   FU (0 : Int32) (up (up s4 9 5 (0 : Int32)) 4 4 (0 : Int32))))
set_option maxHeartbeats 4000000 in
theorem A_X5_firstFault (K : KT) {N : Nat} (hN : NC ≤ N)  (σ : Sg) : AG K mX5_firstFault N (fun a : Int32 × Sg => (some (.int a.1), N, R0, a.2)) (J_X5_firstFault  σ) 0 [some (.ref 4), none, none] [] σ := by
  unfold J_X5_firstFault
  refine ag_aload_0 (q := 1) dX5_firstFault_0 rfl ?_
  refine ag_getR (q := 4) dX5_firstFault_1 rfl fl5_18 (Nat.lt_of_lt_of_le (by decide : 4 < NC) hN) (congrArg Prod.fst s_4) rfl r_4_1 ?_
  refine ag_callV_mU (q := 7) (av := []) (rest := []) dX5_firstFault_4 rfl lk5_38 (C_X1_clear hN 6 (by decide) _) (by decide) (Nat.le_of_ble_eq_true rfl) (Nat.lt_of_lt_of_le (by decide : 6 < NC) hN) (congrArg Prod.fst s_6) (by decide) (fun _ => rfl) (Nat.le_of_ble_eq_true rfl) rfl (fun r4 s4 e4 => ?_)
  refine ag_aload_0 (q := 8) dX5_firstFault_7 rfl ?_
  refine ag_getR (q := 11) dX5_firstFault_8 rfl fl5_27 (Nat.lt_of_lt_of_le (by decide : 4 < NC) hN) (congrArg Prod.fst s_4) rfl r_4_2 ?_
  refine ag_iconst (q := 12) (v := 0) dX5_firstFault_11 rfl (by decide) ?_
  refine ag_putI (q := 15) dX5_firstFault_12 rfl fl5_41 (Nat.lt_of_lt_of_le (by decide : 9 < NC) hN) (congrArg Prod.fst s_9) rfl ?_
  refine ag_aload_0 (q := 16) dX5_firstFault_15 rfl ?_
  refine ag_iconst (q := 17) (v := 0) dX5_firstFault_16 rfl (by decide) ?_
  refine ag_putI (q := 20) dX5_firstFault_17 rfl fl5_35 (Nat.lt_of_lt_of_le (by decide : 4 < NC) hN) (congrArg Prod.fst s_4) rfl ?_
  refine ag_iconst (q := 21) (v := 0) dX5_firstFault_20 rfl (by decide) ?_
  refine ag_istore_1 (q := 22) dX5_firstFault_21 rfl (Nat.le_of_ble_eq_true rfl) rfl ?_
  exact A_X5_firstFault_b22 K hN   FU (0 : Int32) (up (up s4 9 5 (0 : Int32)) 4 4 (0 : Int32))
theorem C_X5_firstFault {N : Nat} (hN : NC ≤ N)  (σ : Sg) : ∀ r s', J_X5_firstFault  σ = some (r, s') → AMc yX5_firstFault mX5_firstFault [.ref 4] N R0 σ (some (.int r), N, R0, s') := fun r s' e => AMc.of (L := [some (.ref 4), none, none]) (by decide) rfl (fun _ => rfl) (fun _ => Nat.le_of_ble_eq_true rfl) (Nat.le_refl _) (fun K => A_X5_firstFault K hN  σ _ e (Nat.le_refl _))
def J_X6_add_b32  (x1 : Int32) (x2 : Int32) (x3 : Int32) (x4 : Int32) (x5 : Int32) (w0 : Int32) (σ : Sg) : Option (Unit × Sg) :=
  (if w0 < 0 then (some ((), σ)) else (if (72 : Int32) ≤ w0 then (some ((), σ)) else (if inb w0 72 = true then (if (σ 86 w0.toNatClampNeg) = 0 then (if (σ 80 7) < 0 then (some ((), σ)) else (if (σ 80 7) < (72 : Int32) then (if inb w0 72 = true then (if inb ((up σ 86 w0.toNatClampNeg (vp_nar .boolean (1 : Int32))) 80 7) 72 = true then (bd1 (J_X2_kindOf 87 x1 (up (up σ 86 w0.toNatClampNeg (vp_nar .boolean (1 : Int32))) 81 ((up σ 86 w0.toNatClampNeg (vp_nar .boolean (1 : Int32))) 80 7).toNatClampNeg x5)) fun r105 => (if inb ((up (up σ 86 w0.toNatClampNeg (vp_nar .boolean (1 : Int32))) 81 ((up σ 86 w0.toNatClampNeg (vp_nar .boolean (1 : Int32))) 80 7).toNatClampNeg x5) 80 7) 72 = true then (if inb ((up (up (up σ 86 w0.toNatClampNeg (vp_nar .boolean (1 : Int32))) 81 ((up σ 86 w0.toNatClampNeg (vp_nar .boolean (1 : Int32))) 80 7).toNatClampNeg x5) 82 ((up (up σ 86 w0.toNatClampNeg (vp_nar .boolean (1 : Int32))) 81 ((up σ 86 w0.toNatClampNeg (vp_nar .boolean (1 : Int32))) 80 7).toNatClampNeg x5) 80 7).toNatClampNeg r105) 80 7) 72 = true then (if inb ((up (up (up (up σ 86 w0.toNatClampNeg (vp_nar .boolean (1 : Int32))) 81 ((up σ 86 w0.toNatClampNeg (vp_nar .boolean (1 : Int32))) 80 7).toNatClampNeg x5) 82 ((up (up σ 86 w0.toNatClampNeg (vp_nar .boolean (1 : Int32))) 81 ((up σ 86 w0.toNatClampNeg (vp_nar .boolean (1 : Int32))) 80 7).toNatClampNeg x5) 80 7).toNatClampNeg r105) 83 ((up (up (up σ 86 w0.toNatClampNeg (vp_nar .boolean (1 : Int32))) 81 ((up σ 86 w0.toNatClampNeg (vp_nar .boolean (1 : Int32))) 80 7).toNatClampNeg x5) 82 ((up (up σ 86 w0.toNatClampNeg (vp_nar .boolean (1 : Int32))) 81 ((up σ 86 w0.toNatClampNeg (vp_nar .boolean (1 : Int32))) 80 7).toNatClampNeg x5) 80 7).toNatClampNeg r105) 80 7).toNatClampNeg x2) 80 7) 72 = true then (if inb ((up (up (up (up (up σ 86 w0.toNatClampNeg (vp_nar .boolean (1 : Int32))) 81 ((up σ 86 w0.toNatClampNeg (vp_nar .boolean (1 : Int32))) 80 7).toNatClampNeg x5) 82 ((up (up σ 86 w0.toNatClampNeg (vp_nar .boolean (1 : Int32))) 81 ((up σ 86 w0.toNatClampNeg (vp_nar .boolean (1 : Int32))) 80 7).toNatClampNeg x5) 80 7).toNatClampNeg r105) 83 ((up (up (up σ 86 w0.toNatClampNeg (vp_nar .boolean (1 : Int32))) 81 ((up σ 86 w0.toNatClampNeg (vp_nar .boolean (1 : Int32))) 80 7).toNatClampNeg x5) 82 ((up (up σ 86 w0.toNatClampNeg (vp_nar .boolean (1 : Int32))) 81 ((up σ 86 w0.toNatClampNeg (vp_nar .boolean (1 : Int32))) 80 7).toNatClampNeg x5) 80 7).toNatClampNeg r105) 80 7).toNatClampNeg x2) 84 ((up (up (up (up σ 86 w0.toNatClampNeg (vp_nar .boolean (1 : Int32))) 81 ((up σ 86 w0.toNatClampNeg (vp_nar .boolean (1 : Int32))) 80 7).toNatClampNeg x5) 82 ((up (up σ 86 w0.toNatClampNeg (vp_nar .boolean (1 : Int32))) 81 ((up σ 86 w0.toNatClampNeg (vp_nar .boolean (1 : Int32))) 80 7).toNatClampNeg x5) 80 7).toNatClampNeg r105) 83 ((up (up (up σ 86 w0.toNatClampNeg (vp_nar .boolean (1 : Int32))) 81 ((up σ 86 w0.toNatClampNeg (vp_nar .boolean (1 : Int32))) 80 7).toNatClampNeg x5) 82 ((up (up σ 86 w0.toNatClampNeg (vp_nar .boolean (1 : Int32))) 81 ((up σ 86 w0.toNatClampNeg (vp_nar .boolean (1 : Int32))) 80 7).toNatClampNeg x5) 80 7).toNatClampNeg r105) 80 7).toNatClampNeg x2) 80 7).toNatClampNeg x3) 80 7) 72 = true then (some ((), (up (up (up (up (up (up (up σ 86 w0.toNatClampNeg (vp_nar .boolean (1 : Int32))) 81 ((up σ 86 w0.toNatClampNeg (vp_nar .boolean (1 : Int32))) 80 7).toNatClampNeg x5) 82 ((up (up σ 86 w0.toNatClampNeg (vp_nar .boolean (1 : Int32))) 81 ((up σ 86 w0.toNatClampNeg (vp_nar .boolean (1 : Int32))) 80 7).toNatClampNeg x5) 80 7).toNatClampNeg r105) 83 ((up (up (up σ 86 w0.toNatClampNeg (vp_nar .boolean (1 : Int32))) 81 ((up σ 86 w0.toNatClampNeg (vp_nar .boolean (1 : Int32))) 80 7).toNatClampNeg x5) 82 ((up (up σ 86 w0.toNatClampNeg (vp_nar .boolean (1 : Int32))) 81 ((up σ 86 w0.toNatClampNeg (vp_nar .boolean (1 : Int32))) 80 7).toNatClampNeg x5) 80 7).toNatClampNeg r105) 80 7).toNatClampNeg x2) 84 ((up (up (up (up σ 86 w0.toNatClampNeg (vp_nar .boolean (1 : Int32))) 81 ((up σ 86 w0.toNatClampNeg (vp_nar .boolean (1 : Int32))) 80 7).toNatClampNeg x5) 82 ((up (up σ 86 w0.toNatClampNeg (vp_nar .boolean (1 : Int32))) 81 ((up σ 86 w0.toNatClampNeg (vp_nar .boolean (1 : Int32))) 80 7).toNatClampNeg x5) 80 7).toNatClampNeg r105) 83 ((up (up (up σ 86 w0.toNatClampNeg (vp_nar .boolean (1 : Int32))) 81 ((up σ 86 w0.toNatClampNeg (vp_nar .boolean (1 : Int32))) 80 7).toNatClampNeg x5) 82 ((up (up σ 86 w0.toNatClampNeg (vp_nar .boolean (1 : Int32))) 81 ((up σ 86 w0.toNatClampNeg (vp_nar .boolean (1 : Int32))) 80 7).toNatClampNeg x5) 80 7).toNatClampNeg r105) 80 7).toNatClampNeg x2) 80 7).toNatClampNeg x3) 85 ((up (up (up (up (up σ 86 w0.toNatClampNeg (vp_nar .boolean (1 : Int32))) 81 ((up σ 86 w0.toNatClampNeg (vp_nar .boolean (1 : Int32))) 80 7).toNatClampNeg x5) 82 ((up (up σ 86 w0.toNatClampNeg (vp_nar .boolean (1 : Int32))) 81 ((up σ 86 w0.toNatClampNeg (vp_nar .boolean (1 : Int32))) 80 7).toNatClampNeg x5) 80 7).toNatClampNeg r105) 83 ((up (up (up σ 86 w0.toNatClampNeg (vp_nar .boolean (1 : Int32))) 81 ((up σ 86 w0.toNatClampNeg (vp_nar .boolean (1 : Int32))) 80 7).toNatClampNeg x5) 82 ((up (up σ 86 w0.toNatClampNeg (vp_nar .boolean (1 : Int32))) 81 ((up σ 86 w0.toNatClampNeg (vp_nar .boolean (1 : Int32))) 80 7).toNatClampNeg x5) 80 7).toNatClampNeg r105) 80 7).toNatClampNeg x2) 84 ((up (up (up (up σ 86 w0.toNatClampNeg (vp_nar .boolean (1 : Int32))) 81 ((up σ 86 w0.toNatClampNeg (vp_nar .boolean (1 : Int32))) 80 7).toNatClampNeg x5) 82 ((up (up σ 86 w0.toNatClampNeg (vp_nar .boolean (1 : Int32))) 81 ((up σ 86 w0.toNatClampNeg (vp_nar .boolean (1 : Int32))) 80 7).toNatClampNeg x5) 80 7).toNatClampNeg r105) 83 ((up (up (up σ 86 w0.toNatClampNeg (vp_nar .boolean (1 : Int32))) 81 ((up σ 86 w0.toNatClampNeg (vp_nar .boolean (1 : Int32))) 80 7).toNatClampNeg x5) 82 ((up (up σ 86 w0.toNatClampNeg (vp_nar .boolean (1 : Int32))) 81 ((up σ 86 w0.toNatClampNeg (vp_nar .boolean (1 : Int32))) 80 7).toNatClampNeg x5) 80 7).toNatClampNeg r105) 80 7).toNatClampNeg x2) 80 7).toNatClampNeg x3) 80 7).toNatClampNeg x4) 80 7 (((up (up (up (up (up (up σ 86 w0.toNatClampNeg (vp_nar .boolean (1 : Int32))) 81 ((up σ 86 w0.toNatClampNeg (vp_nar .boolean (1 : Int32))) 80 7).toNatClampNeg x5) 82 ((up (up σ 86 w0.toNatClampNeg (vp_nar .boolean (1 : Int32))) 81 ((up σ 86 w0.toNatClampNeg (vp_nar .boolean (1 : Int32))) 80 7).toNatClampNeg x5) 80 7).toNatClampNeg r105) 83 ((up (up (up σ 86 w0.toNatClampNeg (vp_nar .boolean (1 : Int32))) 81 ((up σ 86 w0.toNatClampNeg (vp_nar .boolean (1 : Int32))) 80 7).toNatClampNeg x5) 82 ((up (up σ 86 w0.toNatClampNeg (vp_nar .boolean (1 : Int32))) 81 ((up σ 86 w0.toNatClampNeg (vp_nar .boolean (1 : Int32))) 80 7).toNatClampNeg x5) 80 7).toNatClampNeg r105) 80 7).toNatClampNeg x2) 84 ((up (up (up (up σ 86 w0.toNatClampNeg (vp_nar .boolean (1 : Int32))) 81 ((up σ 86 w0.toNatClampNeg (vp_nar .boolean (1 : Int32))) 80 7).toNatClampNeg x5) 82 ((up (up σ 86 w0.toNatClampNeg (vp_nar .boolean (1 : Int32))) 81 ((up σ 86 w0.toNatClampNeg (vp_nar .boolean (1 : Int32))) 80 7).toNatClampNeg x5) 80 7).toNatClampNeg r105) 83 ((up (up (up σ 86 w0.toNatClampNeg (vp_nar .boolean (1 : Int32))) 81 ((up σ 86 w0.toNatClampNeg (vp_nar .boolean (1 : Int32))) 80 7).toNatClampNeg x5) 82 ((up (up σ 86 w0.toNatClampNeg (vp_nar .boolean (1 : Int32))) 81 ((up σ 86 w0.toNatClampNeg (vp_nar .boolean (1 : Int32))) 80 7).toNatClampNeg x5) 80 7).toNatClampNeg r105) 80 7).toNatClampNeg x2) 80 7).toNatClampNeg x3) 85 ((up (up (up (up (up σ 86 w0.toNatClampNeg (vp_nar .boolean (1 : Int32))) 81 ((up σ 86 w0.toNatClampNeg (vp_nar .boolean (1 : Int32))) 80 7).toNatClampNeg x5) 82 ((up (up σ 86 w0.toNatClampNeg (vp_nar .boolean (1 : Int32))) 81 ((up σ 86 w0.toNatClampNeg (vp_nar .boolean (1 : Int32))) 80 7).toNatClampNeg x5) 80 7).toNatClampNeg r105) 83 ((up (up (up σ 86 w0.toNatClampNeg (vp_nar .boolean (1 : Int32))) 81 ((up σ 86 w0.toNatClampNeg (vp_nar .boolean (1 : Int32))) 80 7).toNatClampNeg x5) 82 ((up (up σ 86 w0.toNatClampNeg (vp_nar .boolean (1 : Int32))) 81 ((up σ 86 w0.toNatClampNeg (vp_nar .boolean (1 : Int32))) 80 7).toNatClampNeg x5) 80 7).toNatClampNeg r105) 80 7).toNatClampNeg x2) 84 ((up (up (up (up σ 86 w0.toNatClampNeg (vp_nar .boolean (1 : Int32))) 81 ((up σ 86 w0.toNatClampNeg (vp_nar .boolean (1 : Int32))) 80 7).toNatClampNeg x5) 82 ((up (up σ 86 w0.toNatClampNeg (vp_nar .boolean (1 : Int32))) 81 ((up σ 86 w0.toNatClampNeg (vp_nar .boolean (1 : Int32))) 80 7).toNatClampNeg x5) 80 7).toNatClampNeg r105) 83 ((up (up (up σ 86 w0.toNatClampNeg (vp_nar .boolean (1 : Int32))) 81 ((up σ 86 w0.toNatClampNeg (vp_nar .boolean (1 : Int32))) 80 7).toNatClampNeg x5) 82 ((up (up σ 86 w0.toNatClampNeg (vp_nar .boolean (1 : Int32))) 81 ((up σ 86 w0.toNatClampNeg (vp_nar .boolean (1 : Int32))) 80 7).toNatClampNeg x5) 80 7).toNatClampNeg r105) 80 7).toNatClampNeg x2) 80 7).toNatClampNeg x3) 80 7).toNatClampNeg x4) 80 7) + (1 : Int32))))) else none) else none) else none) else none)) else none) else none) else (some ((), σ)))) else (some ((), σ))) else none)))
set_option maxHeartbeats 4000000 in
theorem A_X6_add_b32 (K : KT) {N : Nat} (hN : NC ≤ N)  (x1 : Int32) (x2 : Int32) (x3 : Int32) (x4 : Int32) (x5 : Int32) (w0 : Int32) (σ : Sg) : AG K mX6_add N (fun a : Unit × Sg => (none, N, R0, a.2)) (J_X6_add_b32   x1 x2 x3 x4 x5 w0 σ) 32 [some (.ref 80), some (.int x1), some (.int x2), some (.int x3), some (.int x4), some (.int x5), none] [.int w0] σ := by
  unfold J_X6_add_b32
  refine ag_istore_6 (q := 34) dX6_add_32 rfl (Nat.le_of_ble_eq_true rfl) rfl ?_
  refine ag_iload_6 (q := 36) dX6_add_34 rfl ?_
  refine ag_if_lt (tgt := 72) (q := 39) dX6_add_36 rfl rfl ?_ ?_
  · exact ag_vret dX6_add_72 rfl rfl
  refine ag_iload_6 (q := 41) dX6_add_39 rfl ?_
  refine ag_bipush (q := 43) (v := 72) dX6_add_41 rfl (by decide) ?_
  refine ag_icmp_ge (tgt := 72) (q := 46) dX6_add_43 rfl rfl ?_ ?_
  · exact ag_vret dX6_add_72 rfl rfl
  refine ag_aload_0 (q := 47) dX6_add_46 rfl ?_
  refine ag_getR (q := 50) dX6_add_47 rfl fl6_27 (Nat.lt_of_lt_of_le (by decide : 80 < NC) hN) (congrArg Prod.fst s_80) rfl r_80_6 ?_
  refine ag_iload_6 (q := 52) dX6_add_50 rfl ?_
  refine ag_zald (q := 53) dX6_add_52 rfl (Nat.lt_of_lt_of_le (by decide : 86 < NC) hN) s_86 ?_
  refine ag_if_ne (tgt := 72) (q := 56) dX6_add_53 rfl rfl ?_ ?_
  · exact ag_vret dX6_add_72 rfl rfl
  refine ag_aload_0 (q := 57) dX6_add_56 rfl ?_
  refine ag_getI (q := 60) dX6_add_57 rfl fl6_31 (Nat.lt_of_lt_of_le (by decide : 80 < NC) hN) (congrArg Prod.fst s_80) rfl ?_
  refine ag_if_lt (tgt := 72) (q := 63) dX6_add_60 rfl rfl ?_ ?_
  · exact ag_vret dX6_add_72 rfl rfl
  refine ag_aload_0 (q := 64) dX6_add_63 rfl ?_
  refine ag_getI (q := 67) dX6_add_64 rfl fl6_31 (Nat.lt_of_lt_of_le (by decide : 80 < NC) hN) (congrArg Prod.fst s_80) rfl ?_
  refine ag_bipush (q := 69) (v := 72) dX6_add_67 rfl (by decide) ?_
  refine ag_icmp_lt (tgt := 73) (q := 72) dX6_add_69 rfl rfl ?_ ?_
  · refine ag_aload_0 (q := 74) dX6_add_73 rfl ?_
    refine ag_getR (q := 77) dX6_add_74 rfl fl6_27 (Nat.lt_of_lt_of_le (by decide : 80 < NC) hN) (congrArg Prod.fst s_80) rfl r_80_6 ?_
    refine ag_iload_6 (q := 79) dX6_add_77 rfl ?_
    refine ag_iconst (q := 80) (v := 1) dX6_add_79 rfl (by decide) ?_
    refine ag_zast (q := 81) dX6_add_80 rfl (Nat.lt_of_lt_of_le (by decide : 86 < NC) hN) s_86 ?_
    refine ag_aload_0 (q := 82) dX6_add_81 rfl ?_
    refine ag_getR (q := 85) dX6_add_82 rfl fl6_11 (Nat.lt_of_lt_of_le (by decide : 80 < NC) hN) (congrArg Prod.fst s_80) rfl r_80_1 ?_
    refine ag_aload_0 (q := 86) dX6_add_85 rfl ?_
    refine ag_getI (q := 89) dX6_add_86 rfl fl6_31 (Nat.lt_of_lt_of_le (by decide : 80 < NC) hN) (congrArg Prod.fst s_80) rfl ?_
    refine ag_iload_5 (q := 91) dX6_add_89 rfl ?_
    refine ag_iast (q := 92) dX6_add_91 rfl (Nat.lt_of_lt_of_le (by decide : 81 < NC) hN) s_81 ?_
    refine ag_aload_0 (q := 93) dX6_add_92 rfl ?_
    refine ag_getR (q := 96) dX6_add_93 rfl fl6_15 (Nat.lt_of_lt_of_le (by decide : 80 < NC) hN) (congrArg Prod.fst s_80) rfl r_80_2 ?_
    refine ag_aload_0 (q := 97) dX6_add_96 rfl ?_
    refine ag_getI (q := 100) dX6_add_97 rfl fl6_31 (Nat.lt_of_lt_of_le (by decide : 80 < NC) hN) (congrArg Prod.fst s_80) rfl ?_
    refine ag_aload_0 (q := 101) dX6_add_100 rfl ?_
    refine ag_getR (q := 104) dX6_add_101 rfl fl6_40 (Nat.lt_of_lt_of_le (by decide : 80 < NC) hN) (congrArg Prod.fst s_80) rfl r_80_0 ?_
    refine ag_iload_1 (q := 105) dX6_add_104 rfl ?_
    refine ag_callV_pI (q := 108) (av := [.int _]) (rest := [.int _, .ref _]) dX6_add_105 rfl lk6_68 (C_X2_kindOf hN 87 (by decide) x1 _) (by decide) (Nat.le_of_ble_eq_true rfl) (Nat.lt_of_lt_of_le (by decide : 87 < NC) hN) (congrArg Prod.fst s_87) (by decide) (fun _ => rfl) (Nat.le_of_ble_eq_true rfl) rfl (fun r105 e105 => ?_)
    refine ag_iast (q := 109) dX6_add_108 rfl (Nat.lt_of_lt_of_le (by decide : 82 < NC) hN) s_82 ?_
    refine ag_aload_0 (q := 110) dX6_add_109 rfl ?_
    refine ag_getR (q := 113) dX6_add_110 rfl fl6_18 (Nat.lt_of_lt_of_le (by decide : 80 < NC) hN) (congrArg Prod.fst s_80) rfl r_80_3 ?_
    refine ag_aload_0 (q := 114) dX6_add_113 rfl ?_
    refine ag_getI (q := 117) dX6_add_114 rfl fl6_31 (Nat.lt_of_lt_of_le (by decide : 80 < NC) hN) (congrArg Prod.fst s_80) rfl ?_
    refine ag_iload_2 (q := 118) dX6_add_117 rfl ?_
    refine ag_iast (q := 119) dX6_add_118 rfl (Nat.lt_of_lt_of_le (by decide : 83 < NC) hN) s_83 ?_
    refine ag_aload_0 (q := 120) dX6_add_119 rfl ?_
    refine ag_getR (q := 123) dX6_add_120 rfl fl6_21 (Nat.lt_of_lt_of_le (by decide : 80 < NC) hN) (congrArg Prod.fst s_80) rfl r_80_4 ?_
    refine ag_aload_0 (q := 124) dX6_add_123 rfl ?_
    refine ag_getI (q := 127) dX6_add_124 rfl fl6_31 (Nat.lt_of_lt_of_le (by decide : 80 < NC) hN) (congrArg Prod.fst s_80) rfl ?_
    refine ag_iload_3 (q := 128) dX6_add_127 rfl ?_
    refine ag_iast (q := 129) dX6_add_128 rfl (Nat.lt_of_lt_of_le (by decide : 84 < NC) hN) s_84 ?_
    refine ag_aload_0 (q := 130) dX6_add_129 rfl ?_
    refine ag_getR (q := 133) dX6_add_130 rfl fl6_24 (Nat.lt_of_lt_of_le (by decide : 80 < NC) hN) (congrArg Prod.fst s_80) rfl r_80_5 ?_
    refine ag_aload_0 (q := 134) dX6_add_133 rfl ?_
    refine ag_getI (q := 137) dX6_add_134 rfl fl6_31 (Nat.lt_of_lt_of_le (by decide : 80 < NC) hN) (congrArg Prod.fst s_80) rfl ?_
    refine ag_iload_4 (q := 139) dX6_add_137 rfl ?_
    refine ag_iast (q := 140) dX6_add_139 rfl (Nat.lt_of_lt_of_le (by decide : 85 < NC) hN) s_85 ?_
    refine ag_aload_0 (q := 141) dX6_add_140 rfl ?_
    refine ag_dup (q := 142) dX6_add_141 rfl rfl ?_
    refine ag_getI (q := 145) dX6_add_142 rfl fl6_31 (Nat.lt_of_lt_of_le (by decide : 80 < NC) hN) (congrArg Prod.fst s_80) rfl ?_
    refine ag_iconst (q := 146) (v := 1) dX6_add_145 rfl (by decide) ?_
    refine ag_iadd (q := 147) dX6_add_146 rfl ?_
    refine ag_putI (q := 150) dX6_add_147 rfl fl6_31 (Nat.lt_of_lt_of_le (by decide : 80 < NC) hN) (congrArg Prod.fst s_80) rfl ?_
    exact ag_vret dX6_add_150 rfl rfl
  exact ag_vret dX6_add_72 rfl rfl
def J_X6_add (a1 : Int32) (a2 : Int32) (a3 : Int32) (a4 : Int32) (σ : Sg) : Option (Unit × Sg) :=
  (bd1 (J_X2_placeOf 87 a1 σ) fun r5 => (bd1 (J_X2_kindOf 87 a1 σ) fun r15 => (if r15 = (2 : Int32) then (J_X6_add_b32   a1 a2 a3 a4 r5 (r5 + (36 : Int32)) σ) else (J_X6_add_b32   a1 a2 a3 a4 r5 r5 σ))))
set_option maxHeartbeats 4000000 in
theorem A_X6_add (K : KT) {N : Nat} (hN : NC ≤ N) (a1 : Int32) (a2 : Int32) (a3 : Int32) (a4 : Int32) (σ : Sg) : AG K mX6_add N (fun a : Unit × Sg => (none, N, R0, a.2)) (J_X6_add a1 a2 a3 a4 σ) 0 [some (.ref 80), some (.int a1), some (.int a2), some (.int a3), some (.int a4), none, none] [] σ := by
  unfold J_X6_add
  refine ag_aload_0 (q := 1) dX6_add_0 rfl ?_
  refine ag_getR (q := 4) dX6_add_1 rfl fl6_40 (Nat.lt_of_lt_of_le (by decide : 80 < NC) hN) (congrArg Prod.fst s_80) rfl r_80_0 ?_
  refine ag_iload_1 (q := 5) dX6_add_4 rfl ?_
  refine ag_callV_pI (q := 8) (av := [.int _]) (rest := []) dX6_add_5 rfl lk6_64 (C_X2_placeOf hN 87 (by decide) a1 _) (by decide) (Nat.le_of_ble_eq_true rfl) (Nat.lt_of_lt_of_le (by decide : 87 < NC) hN) (congrArg Prod.fst s_87) (by decide) (fun _ => rfl) (Nat.le_of_ble_eq_true rfl) rfl (fun r5 e5 => ?_)
  refine ag_istore_5 (q := 10) dX6_add_8 rfl (Nat.le_of_ble_eq_true rfl) rfl ?_
  refine ag_aload_0 (q := 11) dX6_add_10 rfl ?_
  refine ag_getR (q := 14) dX6_add_11 rfl fl6_40 (Nat.lt_of_lt_of_le (by decide : 80 < NC) hN) (congrArg Prod.fst s_80) rfl r_80_0 ?_
  refine ag_iload_1 (q := 15) dX6_add_14 rfl ?_
  refine ag_callV_pI (q := 18) (av := [.int _]) (rest := []) dX6_add_15 rfl lk6_68 (C_X2_kindOf hN 87 (by decide) a1 _) (by decide) (Nat.le_of_ble_eq_true rfl) (Nat.lt_of_lt_of_le (by decide : 87 < NC) hN) (congrArg Prod.fst s_87) (by decide) (fun _ => rfl) (Nat.le_of_ble_eq_true rfl) rfl (fun r15 e15 => ?_)
  refine ag_iconst (q := 19) (v := 2) dX6_add_18 rfl (by decide) ?_
  refine ag_icmp_ne (tgt := 30) (q := 22) dX6_add_19 rfl rfl ?_ ?_
  · refine ag_iload_5 (q := 32) dX6_add_30 rfl ?_
    exact A_X6_add_b32 K hN   a1 a2 a3 a4 r5 r5 σ
  refine ag_iload_5 (q := 24) dX6_add_22 rfl ?_
  refine ag_bipush (q := 26) (v := 36) dX6_add_24 rfl (by decide) ?_
  refine ag_iadd (q := 27) dX6_add_26 rfl ?_
  refine ag_goto (q := 32) dX6_add_27 rfl ?_
  exact A_X6_add_b32 K hN   a1 a2 a3 a4 r5 (r5 + (36 : Int32)) σ
theorem C_X6_add {N : Nat} (hN : NC ≤ N) (a1 : Int32) (a2 : Int32) (a3 : Int32) (a4 : Int32) (σ : Sg) : ∀ r s', J_X6_add a1 a2 a3 a4 σ = some (r, s') → AMc yX6_add mX6_add [.ref 80, .int a1, .int a2, .int a3, .int a4] N R0 σ (none, N, R0, s') := fun r s' e => AMc.of (L := [some (.ref 80), some (.int a1), some (.int a2), some (.int a3), some (.int a4), none, none]) (by decide) rfl (fun _ => rfl) (fun _ => Nat.le_of_ble_eq_true rfl) (Nat.le_refl _) (fun K => A_X6_add K hN a1 a2 a3 a4 σ _ e (Nat.le_refl _))
def J_X6_from_b63  (y46 : Int32 → Int32 → Sg → Option (Unit × Sg)) : Nat → Int32 → Int32 → Int32 → Sg → Option (Unit × Sg)
  | 0, _, _, _, _ => none
  | k + 1, x2, x3, x4, σ =>
    (if (4 : Int32) ≤ x4 then (y46 x2 (x3 + (1)) σ) else (if inb x3 72 = true then (if inb x3 72 = true then (bd2 (J_X2_put 87 x2 (σ 81 x3.toNatClampNeg) (σ 82 x3.toNatClampNeg) σ) fun r86 s86 => (bd1 (J_X2_reach 87 x2 x4 (1 : Int32) s86) fun r97 => (if r97 = (-4 : Int32) then (J_X6_from_b63  y46 k x2 x3 (x4 + (1)) s86) else (bd2 (J_X2_move 87 x2 r97 s86) fun r116 s116 => (if inb x3 72 = true then (bd2 (J_X6_add x2 ((s116 83 x3.toNatClampNeg) + (1 : Int32)) x3 x4 s116) fun r132 s132 => (J_X6_from_b63  y46 k x2 x3 (x4 + (1)) s132)) else none))))) else none) else none))
set_option maxHeartbeats 4000000 in
theorem A_X6_from_b63 (K : KT) {N : Nat} (hN : NC ≤ N)  (y46 : Int32 → Int32 → Sg → Option (Unit × Sg)) (hy46 : ∀ (x2 : Int32) (x3 : Int32) (σ : Sg), AG K mX6_from N (fun a : Unit × Sg => (none, N, R0, a.2)) (y46 x2 x3 σ) 46 [some (.ref 80), none, some (.int x2), some (.int x3), none, none] [] σ) : ∀ (k : Nat) (x2 : Int32) (x3 : Int32) (x4 : Int32) (σ : Sg), AG K mX6_from N (fun a : Unit × Sg => (none, N, R0, a.2)) (J_X6_from_b63  y46 k x2 x3 x4 σ) 63 [some (.ref 80), none, some (.int x2), some (.int x3), some (.int x4), none] [] σ := by
  intro k
  induction k with
  | zero => intro x2 x3 x4 σ; exact ag_none
  | succ k ih =>
    intro x2 x3 x4 σ
    rw [J_X6_from_b63]
    refine ag_iload_4 (q := 65) dX6_from_63 rfl ?_
    refine ag_iconst (q := 66) (v := 4) dX6_from_65 rfl (by decide) ?_
    refine ag_icmp_ge (tgt := 141) (q := 69) dX6_from_66 rfl rfl ?_ ?_
    · refine ag_iinc_3 (q := 144) (d := (1)) dX6_from_141 rfl (Nat.le_of_ble_eq_true rfl) rfl (by decide) ?_
      refine ag_goto (q := 46) dX6_from_144 rfl ?_
      refine ag_kill_4 ?_
      exact hy46 x2 (x3 + (1)) σ
    refine ag_aload_0 (q := 70) dX6_from_69 rfl ?_
    refine ag_getR (q := 73) dX6_from_70 rfl fl6_40 (Nat.lt_of_lt_of_le (by decide : 80 < NC) hN) (congrArg Prod.fst s_80) rfl r_80_0 ?_
    refine ag_iload_2 (q := 74) dX6_from_73 rfl ?_
    refine ag_aload_0 (q := 75) dX6_from_74 rfl ?_
    refine ag_getR (q := 78) dX6_from_75 rfl fl6_11 (Nat.lt_of_lt_of_le (by decide : 80 < NC) hN) (congrArg Prod.fst s_80) rfl r_80_1 ?_
    refine ag_iload_3 (q := 79) dX6_from_78 rfl ?_
    refine ag_iald (q := 80) dX6_from_79 rfl (Nat.lt_of_lt_of_le (by decide : 81 < NC) hN) s_81 ?_
    refine ag_aload_0 (q := 81) dX6_from_80 rfl ?_
    refine ag_getR (q := 84) dX6_from_81 rfl fl6_15 (Nat.lt_of_lt_of_le (by decide : 80 < NC) hN) (congrArg Prod.fst s_80) rfl r_80_2 ?_
    refine ag_iload_3 (q := 85) dX6_from_84 rfl ?_
    refine ag_iald (q := 86) dX6_from_85 rfl (Nat.lt_of_lt_of_le (by decide : 82 < NC) hN) s_82 ?_
    refine ag_callV_mU (q := 89) (av := [.int _, .int _, .int _]) (rest := []) dX6_from_86 rfl lk6_52 (C_X2_put hN 87 (by decide) x2 (σ 81 x3.toNatClampNeg) (σ 82 x3.toNatClampNeg) _) (by decide) (Nat.le_of_ble_eq_true rfl) (Nat.lt_of_lt_of_le (by decide : 87 < NC) hN) (congrArg Prod.fst s_87) (by decide) (fun _ => rfl) (Nat.le_of_ble_eq_true rfl) rfl (fun r86 s86 e86 => ?_)
    refine ag_aload_0 (q := 90) dX6_from_89 rfl ?_
    refine ag_getR (q := 93) dX6_from_90 rfl fl6_40 (Nat.lt_of_lt_of_le (by decide : 80 < NC) hN) (congrArg Prod.fst s_80) rfl r_80_0 ?_
    refine ag_iload_2 (q := 94) dX6_from_93 rfl ?_
    refine ag_iload_4 (q := 96) dX6_from_94 rfl ?_
    refine ag_iconst (q := 97) (v := 1) dX6_from_96 rfl (by decide) ?_
    refine ag_callV_pI (q := 100) (av := [.int _, .int _, .int _]) (rest := []) dX6_from_97 rfl lk6_56 (C_X2_reach hN 87 (by decide) x2 x4 (1 : Int32) _) (by decide) (Nat.le_of_ble_eq_true rfl) (Nat.lt_of_lt_of_le (by decide : 87 < NC) hN) (congrArg Prod.fst s_87) (by decide) (fun _ => rfl) (Nat.le_of_ble_eq_true rfl) rfl (fun r97 e97 => ?_)
    refine ag_istore_5 (q := 102) dX6_from_100 rfl (Nat.le_of_ble_eq_true rfl) rfl ?_
    refine ag_iload_5 (q := 104) dX6_from_102 rfl ?_
    refine ag_bipush (q := 106) (v := -4) dX6_from_104 rfl (by decide) ?_
    refine ag_icmp_eq (tgt := 135) (q := 109) dX6_from_106 rfl rfl ?_ ?_
    · refine ag_iinc_4 (q := 138) (d := (1)) dX6_from_135 rfl (Nat.le_of_ble_eq_true rfl) rfl (by decide) ?_
      refine ag_goto (q := 63) dX6_from_138 rfl ?_
      refine ag_kill_5 ?_
      exact ih x2 x3 (x4 + (1)) s86
    refine ag_aload_0 (q := 110) dX6_from_109 rfl ?_
    refine ag_getR (q := 113) dX6_from_110 rfl fl6_40 (Nat.lt_of_lt_of_le (by decide : 80 < NC) hN) (congrArg Prod.fst s_80) rfl r_80_0 ?_
    refine ag_iload_2 (q := 114) dX6_from_113 rfl ?_
    refine ag_iload_5 (q := 116) dX6_from_114 rfl ?_
    refine ag_callV_mU (q := 119) (av := [.int _, .int _]) (rest := []) dX6_from_116 rfl lk6_60 (C_X2_move hN 87 (by decide) x2 r97 _) (by decide) (Nat.le_of_ble_eq_true rfl) (Nat.lt_of_lt_of_le (by decide : 87 < NC) hN) (congrArg Prod.fst s_87) (by decide) (fun _ => rfl) (Nat.le_of_ble_eq_true rfl) rfl (fun r116 s116 e116 => ?_)
    refine ag_aload_0 (q := 120) dX6_from_119 rfl ?_
    refine ag_iload_2 (q := 121) dX6_from_120 rfl ?_
    refine ag_aload_0 (q := 122) dX6_from_121 rfl ?_
    refine ag_getR (q := 125) dX6_from_122 rfl fl6_18 (Nat.lt_of_lt_of_le (by decide : 80 < NC) hN) (congrArg Prod.fst s_80) rfl r_80_3 ?_
    refine ag_iload_3 (q := 126) dX6_from_125 rfl ?_
    refine ag_iald (q := 127) dX6_from_126 rfl (Nat.lt_of_lt_of_le (by decide : 83 < NC) hN) s_83 ?_
    refine ag_iconst (q := 128) (v := 1) dX6_from_127 rfl (by decide) ?_
    refine ag_iadd (q := 129) dX6_from_128 rfl ?_
    refine ag_iload_3 (q := 130) dX6_from_129 rfl ?_
    refine ag_iload_4 (q := 132) dX6_from_130 rfl ?_
    refine ag_callV_mU (q := 135) (av := [.int _, .int _, .int _, .int _]) (rest := []) dX6_from_132 rfl lk6_48 (C_X6_add hN x2 ((s116 83 x3.toNatClampNeg) + (1 : Int32)) x3 x4 _) (by decide) (Nat.le_of_ble_eq_true rfl) (Nat.lt_of_lt_of_le (by decide : 80 < NC) hN) (congrArg Prod.fst s_80) (by decide) (fun _ => rfl) (Nat.le_of_ble_eq_true rfl) rfl (fun r132 s132 e132 => ?_)
    refine ag_iinc_4 (q := 138) (d := (1)) dX6_from_135 rfl (Nat.le_of_ble_eq_true rfl) rfl (by decide) ?_
    refine ag_goto (q := 63) dX6_from_138 rfl ?_
    refine ag_kill_5 ?_
    exact ih x2 x3 (x4 + (1)) s132
def J_X6_from_b46  : Nat → Int32 → Int32 → Sg → Option (Unit × Sg)
  | 0, _, _, _ => none
  | k + 1, x2, x3, σ =>
    (if (σ 80 7) ≤ x3 then (some ((), σ)) else (if (72 : Int32) ≤ x3 then (some ((), σ)) else (J_X6_from_b63  (fun x2 x3 σ => J_X6_from_b46   k x2 x3 σ) FU x2 x3 (0 : Int32) σ)))
set_option maxHeartbeats 4000000 in
theorem A_X6_from_b46 (K : KT) {N : Nat} (hN : NC ≤ N)  : ∀ (k : Nat) (x2 : Int32) (x3 : Int32) (σ : Sg), AG K mX6_from N (fun a : Unit × Sg => (none, N, R0, a.2)) (J_X6_from_b46   k x2 x3 σ) 46 [some (.ref 80), none, some (.int x2), some (.int x3), none, none] [] σ := by
  intro k
  induction k with
  | zero => intro x2 x3 σ; exact ag_none
  | succ k ih =>
    intro x2 x3 σ
    rw [J_X6_from_b46]
    refine ag_iload_3 (q := 47) dX6_from_46 rfl ?_
    refine ag_aload_0 (q := 48) dX6_from_47 rfl ?_
    refine ag_getI (q := 51) dX6_from_48 rfl fl6_31 (Nat.lt_of_lt_of_le (by decide : 80 < NC) hN) (congrArg Prod.fst s_80) rfl ?_
    refine ag_icmp_ge (tgt := 147) (q := 54) dX6_from_51 rfl rfl ?_ ?_
    · exact ag_vret dX6_from_147 rfl rfl
    refine ag_iload_3 (q := 55) dX6_from_54 rfl ?_
    refine ag_bipush (q := 57) (v := 72) dX6_from_55 rfl (by decide) ?_
    refine ag_icmp_ge (tgt := 147) (q := 60) dX6_from_57 rfl rfl ?_ ?_
    · exact ag_vret dX6_from_147 rfl rfl
    refine ag_iconst (q := 61) (v := 0) dX6_from_60 rfl (by decide) ?_
    refine ag_istore_4 (q := 63) dX6_from_61 rfl (Nat.le_of_ble_eq_true rfl) rfl ?_
    exact A_X6_from_b63 K hN  (fun x2 x3 σ => J_X6_from_b46   k x2 x3 σ) (fun x2 x3 σ => ih x2 x3 σ) FU x2 x3 (0 : Int32) σ
def J_X6_from_b15  : Nat → Int32 → Int32 → Sg → Option (Unit × Sg)
  | 0, _, _, _ => none
  | k + 1, x2, x3, σ =>
    (if (72 : Int32) ≤ x3 then (bd2 (J_X6_add x2 (0 : Int32) (-4 : Int32) (-4 : Int32) σ) fun r41 s41 => (J_X6_from_b46   FU x2 (0 : Int32) s41)) else (if inb x3 72 = true then (J_X6_from_b15   k x2 (x3 + (1)) (up σ 86 x3.toNatClampNeg (vp_nar .boolean (0 : Int32)))) else none))
set_option maxHeartbeats 4000000 in
theorem A_X6_from_b15 (K : KT) {N : Nat} (hN : NC ≤ N)  : ∀ (k : Nat) (x2 : Int32) (x3 : Int32) (σ : Sg), AG K mX6_from N (fun a : Unit × Sg => (none, N, R0, a.2)) (J_X6_from_b15   k x2 x3 σ) 15 [some (.ref 80), none, some (.int x2), some (.int x3), none, none] [] σ := by
  intro k
  induction k with
  | zero => intro x2 x3 σ; exact ag_none
  | succ k ih =>
    intro x2 x3 σ
    rw [J_X6_from_b15]
    refine ag_iload_3 (q := 16) dX6_from_15 rfl ?_
    refine ag_bipush (q := 18) (v := 72) dX6_from_16 rfl (by decide) ?_
    refine ag_icmp_ge (tgt := 34) (q := 21) dX6_from_18 rfl rfl ?_ ?_
    · refine ag_aload_0 (q := 35) dX6_from_34 rfl ?_
      refine ag_iload_2 (q := 36) dX6_from_35 rfl ?_
      refine ag_iconst (q := 37) (v := 0) dX6_from_36 rfl (by decide) ?_
      refine ag_bipush (q := 39) (v := -4) dX6_from_37 rfl (by decide) ?_
      refine ag_bipush (q := 41) (v := -4) dX6_from_39 rfl (by decide) ?_
      refine ag_callV_mU (q := 44) (av := [.int _, .int _, .int _, .int _]) (rest := []) dX6_from_41 rfl lk6_48 (C_X6_add hN x2 (0 : Int32) (-4 : Int32) (-4 : Int32) _) (by decide) (Nat.le_of_ble_eq_true rfl) (Nat.lt_of_lt_of_le (by decide : 80 < NC) hN) (congrArg Prod.fst s_80) (by decide) (fun _ => rfl) (Nat.le_of_ble_eq_true rfl) rfl (fun r41 s41 e41 => ?_)
      refine ag_iconst (q := 45) (v := 0) dX6_from_44 rfl (by decide) ?_
      refine ag_istore_3 (q := 46) dX6_from_45 rfl (Nat.le_of_ble_eq_true rfl) rfl ?_
      exact A_X6_from_b46 K hN   FU x2 (0 : Int32) s41
    refine ag_aload_0 (q := 22) dX6_from_21 rfl ?_
    refine ag_getR (q := 25) dX6_from_22 rfl fl6_27 (Nat.lt_of_lt_of_le (by decide : 80 < NC) hN) (congrArg Prod.fst s_80) rfl r_80_6 ?_
    refine ag_iload_3 (q := 26) dX6_from_25 rfl ?_
    refine ag_iconst (q := 27) (v := 0) dX6_from_26 rfl (by decide) ?_
    refine ag_zast (q := 28) dX6_from_27 rfl (Nat.lt_of_lt_of_le (by decide : 86 < NC) hN) s_86 ?_
    refine ag_iinc_3 (q := 31) (d := (1)) dX6_from_28 rfl (Nat.le_of_ble_eq_true rfl) rfl (by decide) ?_
    refine ag_goto (q := 15) dX6_from_31 rfl ?_
    exact ih x2 (x3 + (1)) (up σ 86 x3.toNatClampNeg (vp_nar .boolean (0 : Int32)))
def J_X6_from (a1 : Nat) (a2 : Int32) (σ : Sg) : Option (Unit × Sg) :=
  (bd2 (J_X2_copyFrom 87 a1 σ) fun r5 s5 => (J_X6_from_b15   FU a2 (0 : Int32) (up s5 80 7 (0 : Int32))))
set_option maxHeartbeats 4000000 in
theorem A_X6_from (K : KT) {N : Nat} (hN : NC ≤ N) (a1 : Nat) (ha1 : isM a1 = true) (a2 : Int32) (σ : Sg) : AG K mX6_from N (fun a : Unit × Sg => (none, N, R0, a.2)) (J_X6_from a1 a2 σ) 0 [some (.ref 80), some (.ref a1), some (.int a2), none, none, none] [] σ := by
  unfold J_X6_from
  refine ag_aload_0 (q := 1) dX6_from_0 rfl ?_
  refine ag_getR (q := 4) dX6_from_1 rfl fl6_40 (Nat.lt_of_lt_of_le (by decide : 80 < NC) hN) (congrArg Prod.fst s_80) rfl r_80_0 ?_
  refine ag_aload_1 (q := 5) dX6_from_4 rfl ?_
  refine ag_callV_mU (q := 8) (av := [.ref _]) (rest := []) dX6_from_5 rfl lk6_44 (C_X2_copyFrom hN 87 (by decide) a1 ha1 _) (by decide) (Nat.le_of_ble_eq_true rfl) (Nat.lt_of_lt_of_le (by decide : 87 < NC) hN) (congrArg Prod.fst s_87) (by decide) (fun _ => rfl) (Nat.le_of_ble_eq_true rfl) rfl (fun r5 s5 e5 => ?_)
  refine ag_aload_0 (q := 9) dX6_from_8 rfl ?_
  refine ag_iconst (q := 10) (v := 0) dX6_from_9 rfl (by decide) ?_
  refine ag_putI (q := 13) dX6_from_10 rfl fl6_31 (Nat.lt_of_lt_of_le (by decide : 80 < NC) hN) (congrArg Prod.fst s_80) rfl ?_
  refine ag_iconst (q := 14) (v := 0) dX6_from_13 rfl (by decide) ?_
  refine ag_istore_3 (q := 15) dX6_from_14 rfl (Nat.le_of_ble_eq_true rfl) rfl ?_
  refine ag_kill_1 ?_
  exact A_X6_from_b15 K hN   FU a2 (0 : Int32) (up s5 80 7 (0 : Int32))
theorem C_X6_from {N : Nat} (hN : NC ≤ N) (a1 : Nat) (ha1 : isM a1 = true) (a2 : Int32) (σ : Sg) : ∀ r s', J_X6_from a1 a2 σ = some (r, s') → AMc yX6_from mX6_from [.ref 80, .ref a1, .int a2] N R0 σ (none, N, R0, s') := fun r s' e => AMc.of (L := [some (.ref 80), some (.ref a1), some (.int a2), none, none, none]) (by decide) rfl (fun _ => rfl) (fun _ => Nat.le_of_ble_eq_true rfl) (Nat.le_refl _) (fun K => A_X6_from K hN a1 ha1 a2 σ _ e (Nat.le_refl _))
def J_X6_first_b2  : Nat → Int32 → Int32 → Sg → Option Int32
  | 0, _, _, _ => none
  | k + 1, x1, x2, σ =>
    (if (σ 80 7) ≤ x2 then (some (-4 : Int32)) else (if (72 : Int32) ≤ x2 then (some (-4 : Int32)) else (if inb x2 72 = true then (if (σ 81 x2.toNatClampNeg) = x1 then (if inb x2 72 = true then (if (12 : Int32) < (σ 83 x2.toNatClampNeg) then (some (-4 : Int32)) else (some x2)) else none) else (J_X6_first_b2   k x1 (x2 + (1)) σ)) else none)))
set_option maxHeartbeats 4000000 in
theorem A_X6_first_b2 (K : KT) {N : Nat} (hN : NC ≤ N)  : ∀ (k : Nat) (x1 : Int32) (x2 : Int32) (σ : Sg), AG K mX6_first N (fun a : Int32 => (some (.int a), N, R0, σ)) (J_X6_first_b2   k x1 x2 σ) 2 [some (.ref 80), some (.int x1), some (.int x2)] [] σ := by
  intro k
  induction k with
  | zero => intro x1 x2 σ; exact ag_none
  | succ k ih =>
    intro x1 x2 σ
    rw [J_X6_first_b2]
    refine ag_iload_2 (q := 3) dX6_first_2 rfl ?_
    refine ag_aload_0 (q := 4) dX6_first_3 rfl ?_
    refine ag_getI (q := 7) dX6_first_4 rfl fl6_31 (Nat.lt_of_lt_of_le (by decide : 80 < NC) hN) (congrArg Prod.fst s_80) rfl ?_
    refine ag_icmp_ge (tgt := 50) (q := 10) dX6_first_7 rfl rfl ?_ ?_
    · refine ag_bipush (q := 52) (v := -4) dX6_first_50 rfl (by decide) ?_
      exact ag_iret dX6_first_52 rfl rfl
    refine ag_iload_2 (q := 11) dX6_first_10 rfl ?_
    refine ag_bipush (q := 13) (v := 72) dX6_first_11 rfl (by decide) ?_
    refine ag_icmp_ge (tgt := 50) (q := 16) dX6_first_13 rfl rfl ?_ ?_
    · refine ag_bipush (q := 52) (v := -4) dX6_first_50 rfl (by decide) ?_
      exact ag_iret dX6_first_52 rfl rfl
    refine ag_aload_0 (q := 17) dX6_first_16 rfl ?_
    refine ag_getR (q := 20) dX6_first_17 rfl fl6_11 (Nat.lt_of_lt_of_le (by decide : 80 < NC) hN) (congrArg Prod.fst s_80) rfl r_80_1 ?_
    refine ag_iload_2 (q := 21) dX6_first_20 rfl ?_
    refine ag_iald (q := 22) dX6_first_21 rfl (Nat.lt_of_lt_of_le (by decide : 81 < NC) hN) s_81 ?_
    refine ag_iload_1 (q := 23) dX6_first_22 rfl ?_
    refine ag_icmp_ne (tgt := 44) (q := 26) dX6_first_23 rfl rfl ?_ ?_
    · refine ag_iinc_2 (q := 47) (d := (1)) dX6_first_44 rfl (Nat.le_of_ble_eq_true rfl) rfl (by decide) ?_
      refine ag_goto (q := 2) dX6_first_47 rfl ?_
      exact ih x1 (x2 + (1)) σ
    refine ag_aload_0 (q := 27) dX6_first_26 rfl ?_
    refine ag_getR (q := 30) dX6_first_27 rfl fl6_18 (Nat.lt_of_lt_of_le (by decide : 80 < NC) hN) (congrArg Prod.fst s_80) rfl r_80_3 ?_
    refine ag_iload_2 (q := 31) dX6_first_30 rfl ?_
    refine ag_iald (q := 32) dX6_first_31 rfl (Nat.lt_of_lt_of_le (by decide : 83 < NC) hN) s_83 ?_
    refine ag_bipush (q := 34) (v := 12) dX6_first_32 rfl (by decide) ?_
    refine ag_icmp_gt (tgt := 41) (q := 37) dX6_first_34 rfl rfl ?_ ?_
    · refine ag_bipush (q := 43) (v := -4) dX6_first_41 rfl (by decide) ?_
      exact ag_iret dX6_first_43 rfl rfl
    refine ag_iload_2 (q := 38) dX6_first_37 rfl ?_
    refine ag_goto (q := 43) dX6_first_38 rfl ?_
    exact ag_iret dX6_first_43 rfl rfl
def J_X6_first (a1 : Int32) (σ : Sg) : Option Int32 :=
  (J_X6_first_b2   FU a1 (0 : Int32) σ)
set_option maxHeartbeats 4000000 in
theorem A_X6_first (K : KT) {N : Nat} (hN : NC ≤ N) (a1 : Int32) (σ : Sg) : AG K mX6_first N (fun a : Int32 => (some (.int a), N, R0, σ)) (J_X6_first a1 σ) 0 [some (.ref 80), some (.int a1), none] [] σ := by
  unfold J_X6_first
  refine ag_iconst (q := 1) (v := 0) dX6_first_0 rfl (by decide) ?_
  refine ag_istore_2 (q := 2) dX6_first_1 rfl (Nat.le_of_ble_eq_true rfl) rfl ?_
  exact A_X6_first_b2 K hN   FU a1 (0 : Int32) σ
theorem C_X6_first {N : Nat} (hN : NC ≤ N) (a1 : Int32) (σ : Sg) : ∀ r, J_X6_first a1 σ = some r → AMc yX6_first mX6_first [.ref 80, .int a1] N R0 σ (some (.int r), N, R0, σ) := fun r e => AMc.of (L := [some (.ref 80), some (.int a1), none]) (by decide) rfl (fun _ => rfl) (fun _ => Nat.le_of_ble_eq_true rfl) (Nat.le_refl _) (fun K => A_X6_first K hN a1 σ _ e (Nat.le_refl _))
def J_X6_drivesTo (a1 : Int32) (σ : Sg) : Option Int32 :=
  (if a1 < 0 then (some (-4 : Int32)) else (if (72 : Int32) ≤ a1 then (some (-4 : Int32)) else (if inb a1 72 = true then (some (σ 83 a1.toNatClampNeg)) else none)))
set_option maxHeartbeats 4000000 in
theorem A_X6_drivesTo (K : KT) {N : Nat} (hN : NC ≤ N) (a1 : Int32) (σ : Sg) : AG K mX6_drivesTo N (fun a : Int32 => (some (.int a), N, R0, σ)) (J_X6_drivesTo a1 σ) 0 [some (.ref 80), some (.int a1)] [] σ := by
  unfold J_X6_drivesTo
  refine ag_iload_1 (q := 1) dX6_drivesTo_0 rfl ?_
  refine ag_if_lt (tgt := 19) (q := 4) dX6_drivesTo_1 rfl rfl ?_ ?_
  · refine ag_bipush (q := 21) (v := -4) dX6_drivesTo_19 rfl (by decide) ?_
    exact ag_iret dX6_drivesTo_21 rfl rfl
  refine ag_iload_1 (q := 5) dX6_drivesTo_4 rfl ?_
  refine ag_bipush (q := 7) (v := 72) dX6_drivesTo_5 rfl (by decide) ?_
  refine ag_icmp_ge (tgt := 19) (q := 10) dX6_drivesTo_7 rfl rfl ?_ ?_
  · refine ag_bipush (q := 21) (v := -4) dX6_drivesTo_19 rfl (by decide) ?_
    exact ag_iret dX6_drivesTo_21 rfl rfl
  refine ag_aload_0 (q := 11) dX6_drivesTo_10 rfl ?_
  refine ag_getR (q := 14) dX6_drivesTo_11 rfl fl6_18 (Nat.lt_of_lt_of_le (by decide : 80 < NC) hN) (congrArg Prod.fst s_80) rfl r_80_3 ?_
  refine ag_iload_1 (q := 15) dX6_drivesTo_14 rfl ?_
  refine ag_iald (q := 16) dX6_drivesTo_15 rfl (Nat.lt_of_lt_of_le (by decide : 83 < NC) hN) s_83 ?_
  refine ag_goto (q := 21) dX6_drivesTo_16 rfl ?_
  exact ag_iret dX6_drivesTo_21 rfl rfl
theorem C_X6_drivesTo {N : Nat} (hN : NC ≤ N) (a1 : Int32) (σ : Sg) : ∀ r, J_X6_drivesTo a1 σ = some r → AMc yX6_drivesTo mX6_drivesTo [.ref 80, .int a1] N R0 σ (some (.int r), N, R0, σ) := fun r e => AMc.of (L := [some (.ref 80), some (.int a1)]) (by decide) rfl (fun _ => rfl) (fun _ => Nat.le_of_ble_eq_true rfl) (Nat.le_refl _) (fun K => A_X6_drivesTo K hN a1 σ _ e (Nat.le_refl _))
def J_X6_wayTo_b5  : Nat → Int32 → Int32 → Int32 → Sg → Option Int32
  | 0, _, _, _, _ => none
  | k + 1, x2, x3, x4, σ =>
    (if (72 : Int32) ≤ x4 then (some (-4 : Int32)) else (if x3 < 0 then (some (-4 : Int32)) else (if (72 : Int32) ≤ x3 then (some (-4 : Int32)) else (if inb x3 72 = true then (if (σ 83 x3.toNatClampNeg) = (x2 + (1 : Int32)) then (if inb x3 72 = true then (some (σ 85 x3.toNatClampNeg)) else none) else (if inb x3 72 = true then (J_X6_wayTo_b5   k x2 (σ 84 x3.toNatClampNeg) (x4 + (1)) σ) else none)) else none))))
set_option maxHeartbeats 4000000 in
theorem A_X6_wayTo_b5 (K : KT) {N : Nat} (hN : NC ≤ N)  : ∀ (k : Nat) (x2 : Int32) (x3 : Int32) (x4 : Int32) (σ : Sg), AG K mX6_wayTo N (fun a : Int32 => (some (.int a), N, R0, σ)) (J_X6_wayTo_b5   k x2 x3 x4 σ) 5 [some (.ref 80), none, some (.int x2), some (.int x3), some (.int x4)] [] σ := by
  intro k
  induction k with
  | zero => intro x2 x3 x4 σ; exact ag_none
  | succ k ih =>
    intro x2 x3 x4 σ
    rw [J_X6_wayTo_b5]
    refine ag_iload_4 (q := 7) dX6_wayTo_5 rfl ?_
    refine ag_bipush (q := 9) (v := 72) dX6_wayTo_7 rfl (by decide) ?_
    refine ag_icmp_ge (tgt := 54) (q := 12) dX6_wayTo_9 rfl rfl ?_ ?_
    · refine ag_bipush (q := 56) (v := -4) dX6_wayTo_54 rfl (by decide) ?_
      exact ag_iret dX6_wayTo_56 rfl rfl
    refine ag_iload_3 (q := 13) dX6_wayTo_12 rfl ?_
    refine ag_if_lt (tgt := 54) (q := 16) dX6_wayTo_13 rfl rfl ?_ ?_
    · refine ag_bipush (q := 56) (v := -4) dX6_wayTo_54 rfl (by decide) ?_
      exact ag_iret dX6_wayTo_56 rfl rfl
    refine ag_iload_3 (q := 17) dX6_wayTo_16 rfl ?_
    refine ag_bipush (q := 19) (v := 72) dX6_wayTo_17 rfl (by decide) ?_
    refine ag_icmp_ge (tgt := 54) (q := 22) dX6_wayTo_19 rfl rfl ?_ ?_
    · refine ag_bipush (q := 56) (v := -4) dX6_wayTo_54 rfl (by decide) ?_
      exact ag_iret dX6_wayTo_56 rfl rfl
    refine ag_aload_0 (q := 23) dX6_wayTo_22 rfl ?_
    refine ag_getR (q := 26) dX6_wayTo_23 rfl fl6_18 (Nat.lt_of_lt_of_le (by decide : 80 < NC) hN) (congrArg Prod.fst s_80) rfl r_80_3 ?_
    refine ag_iload_3 (q := 27) dX6_wayTo_26 rfl ?_
    refine ag_iald (q := 28) dX6_wayTo_27 rfl (Nat.lt_of_lt_of_le (by decide : 83 < NC) hN) s_83 ?_
    refine ag_iload_2 (q := 29) dX6_wayTo_28 rfl ?_
    refine ag_iconst (q := 30) (v := 1) dX6_wayTo_29 rfl (by decide) ?_
    refine ag_iadd (q := 31) dX6_wayTo_30 rfl ?_
    refine ag_icmp_ne (tgt := 41) (q := 34) dX6_wayTo_31 rfl rfl ?_ ?_
    · refine ag_aload_0 (q := 42) dX6_wayTo_41 rfl ?_
      refine ag_getR (q := 45) dX6_wayTo_42 rfl fl6_21 (Nat.lt_of_lt_of_le (by decide : 80 < NC) hN) (congrArg Prod.fst s_80) rfl r_80_4 ?_
      refine ag_iload_3 (q := 46) dX6_wayTo_45 rfl ?_
      refine ag_iald (q := 47) dX6_wayTo_46 rfl (Nat.lt_of_lt_of_le (by decide : 84 < NC) hN) s_84 ?_
      refine ag_istore_3 (q := 48) dX6_wayTo_47 rfl (Nat.le_of_ble_eq_true rfl) rfl ?_
      refine ag_iinc_4 (q := 51) (d := (1)) dX6_wayTo_48 rfl (Nat.le_of_ble_eq_true rfl) rfl (by decide) ?_
      refine ag_goto (q := 5) dX6_wayTo_51 rfl ?_
      exact ih x2 (σ 84 x3.toNatClampNeg) (x4 + (1)) σ
    refine ag_aload_0 (q := 35) dX6_wayTo_34 rfl ?_
    refine ag_getR (q := 38) dX6_wayTo_35 rfl fl6_24 (Nat.lt_of_lt_of_le (by decide : 80 < NC) hN) (congrArg Prod.fst s_80) rfl r_80_5 ?_
    refine ag_iload_3 (q := 39) dX6_wayTo_38 rfl ?_
    refine ag_iald (q := 40) dX6_wayTo_39 rfl (Nat.lt_of_lt_of_le (by decide : 85 < NC) hN) s_85 ?_
    exact ag_iret dX6_wayTo_40 rfl rfl
def J_X6_wayTo (a1 : Int32) (a2 : Int32) (σ : Sg) : Option Int32 :=
  (J_X6_wayTo_b5   FU a2 a1 (0 : Int32) σ)
set_option maxHeartbeats 4000000 in
theorem A_X6_wayTo (K : KT) {N : Nat} (hN : NC ≤ N) (a1 : Int32) (a2 : Int32) (σ : Sg) : AG K mX6_wayTo N (fun a : Int32 => (some (.int a), N, R0, σ)) (J_X6_wayTo a1 a2 σ) 0 [some (.ref 80), some (.int a1), some (.int a2), none, none] [] σ := by
  unfold J_X6_wayTo
  refine ag_iload_1 (q := 1) dX6_wayTo_0 rfl ?_
  refine ag_istore_3 (q := 2) dX6_wayTo_1 rfl (Nat.le_of_ble_eq_true rfl) rfl ?_
  refine ag_iconst (q := 3) (v := 0) dX6_wayTo_2 rfl (by decide) ?_
  refine ag_istore_4 (q := 5) dX6_wayTo_3 rfl (Nat.le_of_ble_eq_true rfl) rfl ?_
  refine ag_kill_1 ?_
  exact A_X6_wayTo_b5 K hN   FU a2 a1 (0 : Int32) σ
theorem C_X6_wayTo {N : Nat} (hN : NC ≤ N) (a1 : Int32) (a2 : Int32) (σ : Sg) : ∀ r, J_X6_wayTo a1 a2 σ = some r → AMc yX6_wayTo mX6_wayTo [.ref 80, .int a1, .int a2] N R0 σ (some (.int r), N, R0, σ) := fun r e => AMc.of (L := [some (.ref 80), some (.int a1), some (.int a2), none, none]) (by decide) rfl (fun _ => rfl) (fun _ => Nat.le_of_ble_eq_true rfl) (Nat.le_refl _) (fun K => A_X6_wayTo K hN a1 a2 σ _ e (Nat.le_refl _))
def J_X6_squaresWithin_b4  : Nat → Int32 → Int32 → Int32 → Sg → Option Int32
  | 0, _, _, _, _ => none
  | k + 1, x1, x2, x3, σ =>
    (if (36 : Int32) ≤ x3 then (some x2) else (bd1 (J_X6_first x3 σ) fun r12 => (if r12 = (-4 : Int32) then (J_X6_squaresWithin_b4   k x1 x2 (x3 + (1)) σ) else (bd1 (J_X6_drivesTo r12 σ) fun r27 => (if x1 < r27 then (J_X6_squaresWithin_b4   k x1 x2 (x3 + (1)) σ) else (J_X6_squaresWithin_b4   k x1 (x2 + (1)) (x3 + (1)) σ))))))
set_option maxHeartbeats 4000000 in
theorem A_X6_squaresWithin_b4 (K : KT) {N : Nat} (hN : NC ≤ N)  : ∀ (k : Nat) (x1 : Int32) (x2 : Int32) (x3 : Int32) (σ : Sg), AG K mX6_squaresWithin N (fun a : Int32 => (some (.int a), N, R0, σ)) (J_X6_squaresWithin_b4   k x1 x2 x3 σ) 4 [some (.ref 80), some (.int x1), some (.int x2), some (.int x3), none] [] σ := by
  intro k
  induction k with
  | zero => intro x1 x2 x3 σ; exact ag_none
  | succ k ih =>
    intro x1 x2 x3 σ
    rw [J_X6_squaresWithin_b4]
    refine ag_iload_3 (q := 5) dX6_squaresWithin_4 rfl ?_
    refine ag_bipush (q := 7) (v := 36) dX6_squaresWithin_5 rfl (by decide) ?_
    refine ag_icmp_ge (tgt := 43) (q := 10) dX6_squaresWithin_7 rfl rfl ?_ ?_
    · refine ag_iload_2 (q := 44) dX6_squaresWithin_43 rfl ?_
      exact ag_iret dX6_squaresWithin_44 rfl rfl
    refine ag_aload_0 (q := 11) dX6_squaresWithin_10 rfl ?_
    refine ag_iload_3 (q := 12) dX6_squaresWithin_11 rfl ?_
    refine ag_callV_pI (q := 15) (av := [.int _]) (rest := []) dX6_squaresWithin_12 rfl lk6_71 (C_X6_first hN x3 _) (by decide) (Nat.le_of_ble_eq_true rfl) (Nat.lt_of_lt_of_le (by decide : 80 < NC) hN) (congrArg Prod.fst s_80) (by decide) (fun _ => rfl) (Nat.le_of_ble_eq_true rfl) rfl (fun r12 e12 => ?_)
    refine ag_istore_4 (q := 17) dX6_squaresWithin_15 rfl (Nat.le_of_ble_eq_true rfl) rfl ?_
    refine ag_iload_4 (q := 19) dX6_squaresWithin_17 rfl ?_
    refine ag_bipush (q := 21) (v := -4) dX6_squaresWithin_19 rfl (by decide) ?_
    refine ag_icmp_eq (tgt := 37) (q := 24) dX6_squaresWithin_21 rfl rfl ?_ ?_
    · refine ag_iinc_3 (q := 40) (d := (1)) dX6_squaresWithin_37 rfl (Nat.le_of_ble_eq_true rfl) rfl (by decide) ?_
      refine ag_goto (q := 4) dX6_squaresWithin_40 rfl ?_
      refine ag_kill_4 ?_
      exact ih x1 x2 (x3 + (1)) σ
    refine ag_aload_0 (q := 25) dX6_squaresWithin_24 rfl ?_
    refine ag_iload_4 (q := 27) dX6_squaresWithin_25 rfl ?_
    refine ag_callV_pI (q := 30) (av := [.int _]) (rest := []) dX6_squaresWithin_27 rfl lk6_74 (C_X6_drivesTo hN r12 _) (by decide) (Nat.le_of_ble_eq_true rfl) (Nat.lt_of_lt_of_le (by decide : 80 < NC) hN) (congrArg Prod.fst s_80) (by decide) (fun _ => rfl) (Nat.le_of_ble_eq_true rfl) rfl (fun r27 e27 => ?_)
    refine ag_iload_1 (q := 31) dX6_squaresWithin_30 rfl ?_
    refine ag_icmp_gt (tgt := 37) (q := 34) dX6_squaresWithin_31 rfl rfl ?_ ?_
    · refine ag_iinc_3 (q := 40) (d := (1)) dX6_squaresWithin_37 rfl (Nat.le_of_ble_eq_true rfl) rfl (by decide) ?_
      refine ag_goto (q := 4) dX6_squaresWithin_40 rfl ?_
      refine ag_kill_4 ?_
      exact ih x1 x2 (x3 + (1)) σ
    refine ag_iinc_2 (q := 37) (d := (1)) dX6_squaresWithin_34 rfl (Nat.le_of_ble_eq_true rfl) rfl (by decide) ?_
    refine ag_iinc_3 (q := 40) (d := (1)) dX6_squaresWithin_37 rfl (Nat.le_of_ble_eq_true rfl) rfl (by decide) ?_
    refine ag_goto (q := 4) dX6_squaresWithin_40 rfl ?_
    refine ag_kill_4 ?_
    exact ih x1 (x2 + (1)) (x3 + (1)) σ
def J_X6_squaresWithin (a1 : Int32) (σ : Sg) : Option Int32 :=
  (J_X6_squaresWithin_b4   FU a1 (0 : Int32) (0 : Int32) σ)
set_option maxHeartbeats 4000000 in
theorem A_X6_squaresWithin (K : KT) {N : Nat} (hN : NC ≤ N) (a1 : Int32) (σ : Sg) : AG K mX6_squaresWithin N (fun a : Int32 => (some (.int a), N, R0, σ)) (J_X6_squaresWithin a1 σ) 0 [some (.ref 80), some (.int a1), none, none, none] [] σ := by
  unfold J_X6_squaresWithin
  refine ag_iconst (q := 1) (v := 0) dX6_squaresWithin_0 rfl (by decide) ?_
  refine ag_istore_2 (q := 2) dX6_squaresWithin_1 rfl (Nat.le_of_ble_eq_true rfl) rfl ?_
  refine ag_iconst (q := 3) (v := 0) dX6_squaresWithin_2 rfl (by decide) ?_
  refine ag_istore_3 (q := 4) dX6_squaresWithin_3 rfl (Nat.le_of_ble_eq_true rfl) rfl ?_
  exact A_X6_squaresWithin_b4 K hN   FU a1 (0 : Int32) (0 : Int32) σ
theorem C_X6_squaresWithin {N : Nat} (hN : NC ≤ N) (a1 : Int32) (σ : Sg) : ∀ r, J_X6_squaresWithin a1 σ = some r → AMc yX6_squaresWithin mX6_squaresWithin [.ref 80, .int a1] N R0 σ (some (.int r), N, R0, σ) := fun r e => AMc.of (L := [some (.ref 80), some (.int a1), none, none, none]) (by decide) rfl (fun _ => rfl) (fun _ => Nat.le_of_ble_eq_true rfl) (Nat.le_refl _) (fun K => A_X6_squaresWithin K hN a1 σ _ e (Nat.le_refl _))
def J_X7_write (a1 : Int32) (σ : Sg) : Option (Int32 × Sg) :=
  (if a1 < (32 : Int32) then (some ((-1 : Int32), σ)) else (if a1 ≤ (126 : Int32) then (bd2 (J_X5_add a1 σ) fun r19 s19 => (if r19 = 0 then (some ((-3 : Int32), s19)) else (some ((s19 4 3), s19)))) else (some ((-1 : Int32), σ))))
set_option maxHeartbeats 4000000 in
theorem A_X7_write (K : KT) {N : Nat} (hN : NC ≤ N) (a1 : Int32) (σ : Sg) : AG K mX7_write N (fun a : Int32 × Sg => (some (.int a.1), N, R0, a.2)) (J_X7_write a1 σ) 0 [some (.ref 0), some (.int a1)] [] σ := by
  unfold J_X7_write
  refine ag_iload_1 (q := 1) dX7_write_0 rfl ?_
  refine ag_bipush (q := 3) (v := 32) dX7_write_1 rfl (by decide) ?_
  refine ag_icmp_lt (tgt := 12) (q := 6) dX7_write_3 rfl rfl ?_ ?_
  · refine ag_iconst (q := 13) (v := -1) dX7_write_12 rfl (by decide) ?_
    exact ag_iret dX7_write_13 rfl rfl
  refine ag_iload_1 (q := 7) dX7_write_6 rfl ?_
  refine ag_bipush (q := 9) (v := 126) dX7_write_7 rfl (by decide) ?_
  refine ag_icmp_le (tgt := 14) (q := 12) dX7_write_9 rfl rfl ?_ ?_
  · refine ag_aload_0 (q := 15) dX7_write_14 rfl ?_
    refine ag_getR (q := 18) dX7_write_15 rfl fl7_19 (Nat.lt_of_lt_of_le (by decide : 0 < NC) hN) (congrArg Prod.fst s_0) rfl r_0_1 ?_
    refine ag_iload_1 (q := 19) dX7_write_18 rfl ?_
    refine ag_callV_mI (q := 22) (av := [.int _]) (rest := []) dX7_write_19 rfl lk7_81 (C_X5_add hN a1 _) (by decide) (Nat.le_of_ble_eq_true rfl) (Nat.lt_of_lt_of_le (by decide : 4 < NC) hN) (congrArg Prod.fst s_4) (by decide) (fun _ => rfl) (Nat.le_of_ble_eq_true rfl) rfl (fun r19 s19 e19 => ?_)
    refine ag_if_eq (tgt := 35) (q := 25) dX7_write_22 rfl rfl ?_ ?_
    · refine ag_bipush (q := 37) (v := -3) dX7_write_35 rfl (by decide) ?_
      exact ag_iret dX7_write_37 rfl rfl
    refine ag_aload_0 (q := 26) dX7_write_25 rfl ?_
    refine ag_getR (q := 29) dX7_write_26 rfl fl7_19 (Nat.lt_of_lt_of_le (by decide : 0 < NC) hN) (congrArg Prod.fst s_0) rfl r_0_1 ?_
    refine ag_getI (q := 32) dX7_write_29 rfl fl7_89 (Nat.lt_of_lt_of_le (by decide : 4 < NC) hN) (congrArg Prod.fst s_4) rfl ?_
    refine ag_goto (q := 37) dX7_write_32 rfl ?_
    exact ag_iret dX7_write_37 rfl rfl
  refine ag_iconst (q := 13) (v := -1) dX7_write_12 rfl (by decide) ?_
  exact ag_iret dX7_write_13 rfl rfl
theorem C_X7_write {N : Nat} (hN : NC ≤ N) (a1 : Int32) (σ : Sg) : ∀ r s', J_X7_write a1 σ = some (r, s') → AMc yX7_write mX7_write [.ref 0, .int a1] N R0 σ (some (.int r), N, R0, s') := fun r s' e => AMc.of (L := [some (.ref 0), some (.int a1)]) (by decide) rfl (fun _ => rfl) (fun _ => Nat.le_of_ble_eq_true rfl) (Nat.le_refl _) (fun K => A_X7_write K hN a1 σ _ e (Nat.le_refl _))
def J_X7_wipe  (σ : Sg) : Option (Int32 × Sg) :=
  (some ((σ 4 3), (up σ 4 3 (0 : Int32))))
set_option maxHeartbeats 4000000 in
theorem A_X7_wipe (K : KT) {N : Nat} (hN : NC ≤ N)  (σ : Sg) : AG K mX7_wipe N (fun a : Int32 × Sg => (some (.int a.1), N, R0, a.2)) (J_X7_wipe  σ) 0 [some (.ref 0), none] [] σ := by
  unfold J_X7_wipe
  refine ag_aload_0 (q := 1) dX7_wipe_0 rfl ?_
  refine ag_getR (q := 4) dX7_wipe_1 rfl fl7_19 (Nat.lt_of_lt_of_le (by decide : 0 < NC) hN) (congrArg Prod.fst s_0) rfl r_0_1 ?_
  refine ag_getI (q := 7) dX7_wipe_4 rfl fl7_89 (Nat.lt_of_lt_of_le (by decide : 4 < NC) hN) (congrArg Prod.fst s_4) rfl ?_
  refine ag_istore_1 (q := 8) dX7_wipe_7 rfl (Nat.le_of_ble_eq_true rfl) rfl ?_
  refine ag_aload_0 (q := 9) dX7_wipe_8 rfl ?_
  refine ag_getR (q := 12) dX7_wipe_9 rfl fl7_19 (Nat.lt_of_lt_of_le (by decide : 0 < NC) hN) (congrArg Prod.fst s_0) rfl r_0_1 ?_
  refine ag_iconst (q := 13) (v := 0) dX7_wipe_12 rfl (by decide) ?_
  refine ag_putI (q := 16) dX7_wipe_13 rfl fl7_89 (Nat.lt_of_lt_of_le (by decide : 4 < NC) hN) (congrArg Prod.fst s_4) rfl ?_
  refine ag_iload_1 (q := 17) dX7_wipe_16 rfl ?_
  exact ag_iret dX7_wipe_17 rfl rfl
theorem C_X7_wipe {N : Nat} (hN : NC ≤ N)  (σ : Sg) : ∀ r s', J_X7_wipe  σ = some (r, s') → AMc yX7_wipe mX7_wipe [.ref 0] N R0 σ (some (.int r), N, R0, s') := fun r s' e => AMc.of (L := [some (.ref 0), none]) (by decide) rfl (fun _ => rfl) (fun _ => Nat.le_of_ble_eq_true rfl) (Nat.le_refl _) (fun K => A_X7_wipe K hN  σ _ e (Nat.le_refl _))
def J_X7_fault  (σ : Sg) : Option (Int32 × Sg) :=
  (bd2 (J_X5_firstFault  σ) fun r4 s4 => (some (r4, s4)))
set_option maxHeartbeats 4000000 in
theorem A_X7_fault (K : KT) {N : Nat} (hN : NC ≤ N)  (σ : Sg) : AG K mX7_fault N (fun a : Int32 × Sg => (some (.int a.1), N, R0, a.2)) (J_X7_fault  σ) 0 [some (.ref 0)] [] σ := by
  unfold J_X7_fault
  refine ag_aload_0 (q := 1) dX7_fault_0 rfl ?_
  refine ag_getR (q := 4) dX7_fault_1 rfl fl7_19 (Nat.lt_of_lt_of_le (by decide : 0 < NC) hN) (congrArg Prod.fst s_0) rfl r_0_1 ?_
  refine ag_callV_mI (q := 7) (av := []) (rest := []) dX7_fault_4 rfl lk7_91 (C_X5_firstFault hN  _) (by decide) (Nat.le_of_ble_eq_true rfl) (Nat.lt_of_lt_of_le (by decide : 4 < NC) hN) (congrArg Prod.fst s_4) (by decide) (fun _ => rfl) (Nat.le_of_ble_eq_true rfl) rfl (fun r4 s4 e4 => ?_)
  exact ag_iret dX7_fault_7 rfl rfl
theorem C_X7_fault {N : Nat} (hN : NC ≤ N)  (σ : Sg) : ∀ r s', J_X7_fault  σ = some (r, s') → AMc yX7_fault mX7_fault [.ref 0] N R0 σ (some (.int r), N, R0, s') := fun r s' e => AMc.of (L := [some (.ref 0)]) (by decide) rfl (fun _ => rfl) (fun _ => Nat.le_of_ble_eq_true rfl) (Nat.le_refl _) (fun K => A_X7_fault K hN  σ _ e (Nat.le_refl _))
def J_X7_begin  (σ : Sg) : Option (Int32 × Sg) :=
  (bd2 (J_X5_firstFault  σ) fun r4 s4 => (if r4 = (-4 : Int32) then (if (1 : Int32) ≤ (s4 6 3) then (bd2 (J_X1_copyFrom 1 6 s4) fun r39 s39 => (bd2 (J_X2_copyFrom 14 9 s39) fun r53 s53 => (some ((1 : Int32), (up (up s53 24 3 (0 : Int32)) 0 8 (0 : Int32)))))) else (some ((0 : Int32), s4))) else (some ((0 : Int32), s4))))
set_option maxHeartbeats 4000000 in
theorem A_X7_begin (K : KT) {N : Nat} (hN : NC ≤ N)  (σ : Sg) : AG K mX7_begin N (fun a : Int32 × Sg => (some (.int a.1), N, R0, a.2)) (J_X7_begin  σ) 0 [some (.ref 0)] [] σ := by
  unfold J_X7_begin
  refine ag_aload_0 (q := 1) dX7_begin_0 rfl ?_
  refine ag_getR (q := 4) dX7_begin_1 rfl fl7_19 (Nat.lt_of_lt_of_le (by decide : 0 < NC) hN) (congrArg Prod.fst s_0) rfl r_0_1 ?_
  refine ag_callV_mI (q := 7) (av := []) (rest := []) dX7_begin_4 rfl lk7_91 (C_X5_firstFault hN  _) (by decide) (Nat.le_of_ble_eq_true rfl) (Nat.lt_of_lt_of_le (by decide : 4 < NC) hN) (congrArg Prod.fst s_4) (by decide) (fun _ => rfl) (Nat.le_of_ble_eq_true rfl) rfl (fun r4 s4 e4 => ?_)
  refine ag_bipush (q := 9) (v := -4) dX7_begin_7 rfl (by decide) ?_
  refine ag_icmp_ne (tgt := 26) (q := 12) dX7_begin_9 rfl rfl ?_ ?_
  · refine ag_iconst (q := 27) (v := 0) dX7_begin_26 rfl (by decide) ?_
    exact ag_zretK dX7_begin_27 rfl (by decide) rfl
  refine ag_aload_0 (q := 13) dX7_begin_12 rfl ?_
  refine ag_getR (q := 16) dX7_begin_13 rfl fl7_19 (Nat.lt_of_lt_of_le (by decide : 0 < NC) hN) (congrArg Prod.fst s_0) rfl r_0_1 ?_
  refine ag_getR (q := 19) dX7_begin_16 rfl fl7_241 (Nat.lt_of_lt_of_le (by decide : 4 < NC) hN) (congrArg Prod.fst s_4) rfl r_4_1 ?_
  refine ag_getI (q := 22) dX7_begin_19 rfl fl7_94 (Nat.lt_of_lt_of_le (by decide : 6 < NC) hN) (congrArg Prod.fst s_6) rfl ?_
  refine ag_iconst (q := 23) (v := 1) dX7_begin_22 rfl (by decide) ?_
  refine ag_icmp_ge (tgt := 28) (q := 26) dX7_begin_23 rfl rfl ?_ ?_
  · refine ag_aload_0 (q := 29) dX7_begin_28 rfl ?_
    refine ag_getR (q := 32) dX7_begin_29 rfl fl7_10 (Nat.lt_of_lt_of_le (by decide : 0 < NC) hN) (congrArg Prod.fst s_0) rfl r_0_0 ?_
    refine ag_aload_0 (q := 33) dX7_begin_32 rfl ?_
    refine ag_getR (q := 36) dX7_begin_33 rfl fl7_19 (Nat.lt_of_lt_of_le (by decide : 0 < NC) hN) (congrArg Prod.fst s_0) rfl r_0_1 ?_
    refine ag_getR (q := 39) dX7_begin_36 rfl fl7_241 (Nat.lt_of_lt_of_le (by decide : 4 < NC) hN) (congrArg Prod.fst s_4) rfl r_4_1 ?_
    refine ag_callV_mU (q := 42) (av := [.ref _]) (rest := []) dX7_begin_39 rfl lk7_242 (C_X1_copyFrom hN 1 (by decide) 6 (by decide) _) (by decide) (Nat.le_of_ble_eq_true rfl) (Nat.lt_of_lt_of_le (by decide : 1 < NC) hN) (congrArg Prod.fst s_1) (by decide) (fun _ => rfl) (Nat.le_of_ble_eq_true rfl) rfl (fun r39 s39 e39 => ?_)
    refine ag_aload_0 (q := 43) dX7_begin_42 rfl ?_
    refine ag_getR (q := 46) dX7_begin_43 rfl fl7_28 (Nat.lt_of_lt_of_le (by decide : 0 < NC) hN) (congrArg Prod.fst s_0) rfl r_0_2 ?_
    refine ag_aload_0 (q := 47) dX7_begin_46 rfl ?_
    refine ag_getR (q := 50) dX7_begin_47 rfl fl7_19 (Nat.lt_of_lt_of_le (by decide : 0 < NC) hN) (congrArg Prod.fst s_0) rfl r_0_1 ?_
    refine ag_getR (q := 53) dX7_begin_50 rfl fl7_244 (Nat.lt_of_lt_of_le (by decide : 4 < NC) hN) (congrArg Prod.fst s_4) rfl r_4_2 ?_
    refine ag_callV_mU (q := 56) (av := [.ref _]) (rest := []) dX7_begin_53 rfl lk7_162 (C_X2_copyFrom hN 14 (by decide) 9 (by decide) _) (by decide) (Nat.le_of_ble_eq_true rfl) (Nat.lt_of_lt_of_le (by decide : 14 < NC) hN) (congrArg Prod.fst s_14) (by decide) (fun _ => rfl) (Nat.le_of_ble_eq_true rfl) rfl (fun r53 s53 e53 => ?_)
    refine ag_aload_0 (q := 57) dX7_begin_56 rfl ?_
    refine ag_getR (q := 60) dX7_begin_57 rfl fl7_38 (Nat.lt_of_lt_of_le (by decide : 0 < NC) hN) (congrArg Prod.fst s_0) rfl r_0_4 ?_
    refine ag_iconst (q := 61) (v := 0) dX7_begin_60 rfl (by decide) ?_
    refine ag_putI (q := 64) dX7_begin_61 rfl fl7_155 (Nat.lt_of_lt_of_le (by decide : 24 < NC) hN) (congrArg Prod.fst s_24) rfl ?_
    refine ag_aload_0 (q := 65) dX7_begin_64 rfl ?_
    refine ag_iconst (q := 66) (v := 0) dX7_begin_65 rfl (by decide) ?_
    refine ag_putI (q := 69) dX7_begin_66 rfl fl7_65 (Nat.lt_of_lt_of_le (by decide : 0 < NC) hN) (congrArg Prod.fst s_0) rfl ?_
    refine ag_iconst (q := 70) (v := 1) dX7_begin_69 rfl (by decide) ?_
    exact ag_zretK dX7_begin_70 rfl (by decide) rfl
  refine ag_iconst (q := 27) (v := 0) dX7_begin_26 rfl (by decide) ?_
  exact ag_zretK dX7_begin_27 rfl (by decide) rfl
theorem C_X7_begin {N : Nat} (hN : NC ≤ N)  (σ : Sg) : ∀ r s', J_X7_begin  σ = some (r, s') → AMc yX7_begin mX7_begin [.ref 0] N R0 σ (some (.int r), N, R0, s') := fun r s' e => AMc.of (L := [some (.ref 0)]) (by decide) rfl (fun _ => rfl) (fun _ => Nat.le_of_ble_eq_true rfl) (Nat.le_refl _) (fun K => A_X7_begin K hN  σ _ e (Nat.le_refl _))
def J_X7_lay  (σ : Sg) : Option (Int32 × Sg) :=
  (bd2 (J_X7_begin  σ) fun r1 s1 => (if r1 = 0 then (some ((-2 : Int32), s1)) else (some ((s1 1 3), s1))))
set_option maxHeartbeats 4000000 in
theorem A_X7_lay (K : KT) {N : Nat} (hN : NC ≤ N)  (σ : Sg) : AG K mX7_lay N (fun a : Int32 × Sg => (some (.int a.1), N, R0, a.2)) (J_X7_lay  σ) 0 [some (.ref 0)] [] σ := by
  unfold J_X7_lay
  refine ag_aload_0 (q := 1) dX7_lay_0 rfl ?_
  refine ag_callV_mI (q := 4) (av := []) (rest := []) dX7_lay_1 rfl lk7_85 (C_X7_begin hN  _) (by decide) (Nat.le_of_ble_eq_true rfl) (Nat.lt_of_lt_of_le (by decide : 0 < NC) hN) (congrArg Prod.fst s_0) (by decide) (fun _ => rfl) (Nat.le_of_ble_eq_true rfl) rfl (fun r1 s1 e1 => ?_)
  refine ag_if_eq (tgt := 17) (q := 7) dX7_lay_4 rfl rfl ?_ ?_
  · refine ag_bipush (q := 19) (v := -2) dX7_lay_17 rfl (by decide) ?_
    exact ag_iret dX7_lay_19 rfl rfl
  refine ag_aload_0 (q := 8) dX7_lay_7 rfl ?_
  refine ag_getR (q := 11) dX7_lay_8 rfl fl7_10 (Nat.lt_of_lt_of_le (by decide : 0 < NC) hN) (congrArg Prod.fst s_0) rfl r_0_0 ?_
  refine ag_getI (q := 14) dX7_lay_11 rfl fl7_94 (Nat.lt_of_lt_of_le (by decide : 1 < NC) hN) (congrArg Prod.fst s_1) rfl ?_
  refine ag_goto (q := 19) dX7_lay_14 rfl ?_
  exact ag_iret dX7_lay_19 rfl rfl
theorem C_X7_lay {N : Nat} (hN : NC ≤ N)  (σ : Sg) : ∀ r s', J_X7_lay  σ = some (r, s') → AMc yX7_lay mX7_lay [.ref 0] N R0 σ (some (.int r), N, R0, s') := fun r s' e => AMc.of (L := [some (.ref 0)]) (by decide) rfl (fun _ => rfl) (fun _ => Nat.le_of_ble_eq_true rfl) (Nat.le_refl _) (fun K => A_X7_lay K hN  σ _ e (Nat.le_refl _))
def J_X7_square (a1 : Int32) (a2 : Int32) (σ : Sg) : Option Int32 :=
  (bd1 (J_X1_hasSquare 1 a1 σ) fun r5 => (if r5 = 0 then (some (-1 : Int32)) else (if a2 < 0 then (some (-1 : Int32)) else (if a2 ≤ (1 : Int32) then (if a2 = 0 then (bd1 (J_X2_grassOn 14 a1 σ) fun r31 => (some r31)) else (bd1 (J_X2_occupant 14 a1 σ) fun r42 => (some r42))) else (some (-1 : Int32))))))
set_option maxHeartbeats 4000000 in
theorem A_X7_square (K : KT) {N : Nat} (hN : NC ≤ N) (a1 : Int32) (a2 : Int32) (σ : Sg) : AG K mX7_square N (fun a : Int32 => (some (.int a), N, R0, σ)) (J_X7_square a1 a2 σ) 0 [some (.ref 0), some (.int a1), some (.int a2)] [] σ := by
  unfold J_X7_square
  refine ag_aload_0 (q := 1) dX7_square_0 rfl ?_
  refine ag_getR (q := 4) dX7_square_1 rfl fl7_10 (Nat.lt_of_lt_of_le (by decide : 0 < NC) hN) (congrArg Prod.fst s_0) rfl r_0_0 ?_
  refine ag_iload_1 (q := 5) dX7_square_4 rfl ?_
  refine ag_callV_pI (q := 8) (av := [.int _]) (rest := []) dX7_square_5 rfl lk7_97 (C_X1_hasSquare hN 1 (by decide) a1 _) (by decide) (Nat.le_of_ble_eq_true rfl) (Nat.lt_of_lt_of_le (by decide : 1 < NC) hN) (congrArg Prod.fst s_1) (by decide) (fun _ => rfl) (Nat.le_of_ble_eq_true rfl) rfl (fun r5 e5 => ?_)
  refine ag_if_eq (tgt := 20) (q := 11) dX7_square_8 rfl rfl ?_ ?_
  · refine ag_iconst (q := 21) (v := -1) dX7_square_20 rfl (by decide) ?_
    exact ag_iret dX7_square_21 rfl rfl
  refine ag_iload_2 (q := 12) dX7_square_11 rfl ?_
  refine ag_if_lt (tgt := 20) (q := 15) dX7_square_12 rfl rfl ?_ ?_
  · refine ag_iconst (q := 21) (v := -1) dX7_square_20 rfl (by decide) ?_
    exact ag_iret dX7_square_21 rfl rfl
  refine ag_iload_2 (q := 16) dX7_square_15 rfl ?_
  refine ag_iconst (q := 17) (v := 1) dX7_square_16 rfl (by decide) ?_
  refine ag_icmp_le (tgt := 22) (q := 20) dX7_square_17 rfl rfl ?_ ?_
  · refine ag_iload_2 (q := 23) dX7_square_22 rfl ?_
    refine ag_if_ne (tgt := 37) (q := 26) dX7_square_23 rfl rfl ?_ ?_
    · refine ag_aload_0 (q := 38) dX7_square_37 rfl ?_
      refine ag_getR (q := 41) dX7_square_38 rfl fl7_28 (Nat.lt_of_lt_of_le (by decide : 0 < NC) hN) (congrArg Prod.fst s_0) rfl r_0_2 ?_
      refine ag_iload_1 (q := 42) dX7_square_41 rfl ?_
      refine ag_callV_pI (q := 45) (av := [.int _]) (rest := []) dX7_square_42 rfl lk7_104 (C_X2_occupant hN 14 (by decide) a1 _) (by decide) (Nat.le_of_ble_eq_true rfl) (Nat.lt_of_lt_of_le (by decide : 14 < NC) hN) (congrArg Prod.fst s_14) (by decide) (fun _ => rfl) (Nat.le_of_ble_eq_true rfl) rfl (fun r42 e42 => ?_)
      exact ag_iret dX7_square_45 rfl rfl
    refine ag_aload_0 (q := 27) dX7_square_26 rfl ?_
    refine ag_getR (q := 30) dX7_square_27 rfl fl7_28 (Nat.lt_of_lt_of_le (by decide : 0 < NC) hN) (congrArg Prod.fst s_0) rfl r_0_2 ?_
    refine ag_iload_1 (q := 31) dX7_square_30 rfl ?_
    refine ag_callV_pI (q := 34) (av := [.int _]) (rest := []) dX7_square_31 rfl lk7_100 (C_X2_grassOn hN 14 (by decide) a1 _) (by decide) (Nat.le_of_ble_eq_true rfl) (Nat.lt_of_lt_of_le (by decide : 14 < NC) hN) (congrArg Prod.fst s_14) (by decide) (fun _ => rfl) (Nat.le_of_ble_eq_true rfl) rfl (fun r31 e31 => ?_)
    refine ag_goto (q := 45) dX7_square_34 rfl ?_
    exact ag_iret dX7_square_45 rfl rfl
  refine ag_iconst (q := 21) (v := -1) dX7_square_20 rfl (by decide) ?_
  exact ag_iret dX7_square_21 rfl rfl
theorem C_X7_square {N : Nat} (hN : NC ≤ N) (a1 : Int32) (a2 : Int32) (σ : Sg) : ∀ r, J_X7_square a1 a2 σ = some r → AMc yX7_square mX7_square [.ref 0, .int a1, .int a2] N R0 σ (some (.int r), N, R0, σ) := fun r e => AMc.of (L := [some (.ref 0), some (.int a1), some (.int a2)]) (by decide) rfl (fun _ => rfl) (fun _ => Nat.le_of_ble_eq_true rfl) (Nat.le_refl _) (fun K => A_X7_square K hN a1 a2 σ _ e (Nat.le_refl _))
def J_X7_beast (a1 : Int32) (a2 : Int32) (σ : Sg) : Option Int32 :=
  (bd1 (J_X1_hasBeast 1 a1 σ) fun r5 => (if r5 = 0 then (some (-1 : Int32)) else (if a2 = 0 then (bd1 (J_X2_kindOf 14 a1 σ) fun r49 => (some r49)) else (if a2 = 1 then (bd1 (J_X1_villageOf 1 a1 σ) fun r58 => (some r58)) else (if a2 = 2 then (bd1 (J_X2_placeOf 14 a1 σ) fun r67 => (some r67)) else (if a2 = 3 then (bd1 (J_X2_hungerOf 14 a1 σ) fun r76 => (some r76)) else (some (-1 : Int32))))))))
set_option maxHeartbeats 4000000 in
theorem A_X7_beast (K : KT) {N : Nat} (hN : NC ≤ N) (a1 : Int32) (a2 : Int32) (σ : Sg) : AG K mX7_beast N (fun a : Int32 => (some (.int a), N, R0, σ)) (J_X7_beast a1 a2 σ) 0 [some (.ref 0), some (.int a1), some (.int a2)] [] σ := by
  unfold J_X7_beast
  refine ag_aload_0 (q := 1) dX7_beast_0 rfl ?_
  refine ag_getR (q := 4) dX7_beast_1 rfl fl7_10 (Nat.lt_of_lt_of_le (by decide : 0 < NC) hN) (congrArg Prod.fst s_0) rfl r_0_0 ?_
  refine ag_iload_1 (q := 5) dX7_beast_4 rfl ?_
  refine ag_callV_pI (q := 8) (av := [.int _]) (rest := []) dX7_beast_5 rfl lk7_107 (C_X1_hasBeast hN 1 (by decide) a1 _) (by decide) (Nat.le_of_ble_eq_true rfl) (Nat.lt_of_lt_of_le (by decide : 1 < NC) hN) (congrArg Prod.fst s_1) (by decide) (fun _ => rfl) (Nat.le_of_ble_eq_true rfl) rfl (fun r5 e5 => ?_)
  refine ag_if_ne (tgt := 13) (q := 11) dX7_beast_8 rfl rfl ?_ ?_
  · refine ag_iload_2 (q := 14) dX7_beast_13 rfl ?_
    refine ag_ite (fun z0 => ?_) (fun z0 => ?_)
    · refine ag_tin (k := 0) (q := 44) dX7_beast_14 z0 (by decide) (by decide) rfl rfl ?_
      refine ag_aload_0 (q := 45) dX7_beast_44 rfl ?_
      refine ag_getR (q := 48) dX7_beast_45 rfl fl7_28 (Nat.lt_of_lt_of_le (by decide : 0 < NC) hN) (congrArg Prod.fst s_0) rfl r_0_2 ?_
      refine ag_iload_1 (q := 49) dX7_beast_48 rfl ?_
      refine ag_callV_pI (q := 52) (av := [.int _]) (rest := []) dX7_beast_49 rfl lk7_110 (C_X2_kindOf hN 14 (by decide) a1 _) (by decide) (Nat.le_of_ble_eq_true rfl) (Nat.lt_of_lt_of_le (by decide : 14 < NC) hN) (congrArg Prod.fst s_14) (by decide) (fun _ => rfl) (Nat.le_of_ble_eq_true rfl) rfl (fun r49 e49 => ?_)
      exact ag_iret dX7_beast_52 rfl rfl
    refine ag_ite (fun z1 => ?_) (fun z1 => ?_)
    · refine ag_tin (k := 1) (q := 53) dX7_beast_14 z1 (by decide) (by decide) rfl rfl ?_
      refine ag_aload_0 (q := 54) dX7_beast_53 rfl ?_
      refine ag_getR (q := 57) dX7_beast_54 rfl fl7_10 (Nat.lt_of_lt_of_le (by decide : 0 < NC) hN) (congrArg Prod.fst s_0) rfl r_0_0 ?_
      refine ag_iload_1 (q := 58) dX7_beast_57 rfl ?_
      refine ag_callV_pI (q := 61) (av := [.int _]) (rest := []) dX7_beast_58 rfl lk7_113 (C_X1_villageOf hN 1 (by decide) a1 _) (by decide) (Nat.le_of_ble_eq_true rfl) (Nat.lt_of_lt_of_le (by decide : 1 < NC) hN) (congrArg Prod.fst s_1) (by decide) (fun _ => rfl) (Nat.le_of_ble_eq_true rfl) rfl (fun r58 e58 => ?_)
      exact ag_iret dX7_beast_61 rfl rfl
    refine ag_ite (fun z2 => ?_) (fun z2 => ?_)
    · refine ag_tin (k := 2) (q := 62) dX7_beast_14 z2 (by decide) (by decide) rfl rfl ?_
      refine ag_aload_0 (q := 63) dX7_beast_62 rfl ?_
      refine ag_getR (q := 66) dX7_beast_63 rfl fl7_28 (Nat.lt_of_lt_of_le (by decide : 0 < NC) hN) (congrArg Prod.fst s_0) rfl r_0_2 ?_
      refine ag_iload_1 (q := 67) dX7_beast_66 rfl ?_
      refine ag_callV_pI (q := 70) (av := [.int _]) (rest := []) dX7_beast_67 rfl lk7_116 (C_X2_placeOf hN 14 (by decide) a1 _) (by decide) (Nat.le_of_ble_eq_true rfl) (Nat.lt_of_lt_of_le (by decide : 14 < NC) hN) (congrArg Prod.fst s_14) (by decide) (fun _ => rfl) (Nat.le_of_ble_eq_true rfl) rfl (fun r67 e67 => ?_)
      exact ag_iret dX7_beast_70 rfl rfl
    refine ag_ite (fun z3 => ?_) (fun z3 => ?_)
    · refine ag_tin (k := 3) (q := 71) dX7_beast_14 z3 (by decide) (by decide) rfl rfl ?_
      refine ag_aload_0 (q := 72) dX7_beast_71 rfl ?_
      refine ag_getR (q := 75) dX7_beast_72 rfl fl7_28 (Nat.lt_of_lt_of_le (by decide : 0 < NC) hN) (congrArg Prod.fst s_0) rfl r_0_2 ?_
      refine ag_iload_1 (q := 76) dX7_beast_75 rfl ?_
      refine ag_callV_pI (q := 79) (av := [.int _]) (rest := []) dX7_beast_76 rfl lk7_119 (C_X2_hungerOf hN 14 (by decide) a1 _) (by decide) (Nat.le_of_ble_eq_true rfl) (Nat.lt_of_lt_of_le (by decide : 14 < NC) hN) (congrArg Prod.fst s_14) (by decide) (fun _ => rfl) (Nat.le_of_ble_eq_true rfl) rfl (fun r76 e76 => ?_)
      exact ag_iret dX7_beast_79 rfl rfl
    refine ag_tout (q := 80) dX7_beast_14 (by have q0 := lv_neT z0 (by decide : (0 : Int32).toInt = 0); have q1 := lv_neT z1 (by decide : (1 : Int32).toInt = 1); have q2 := lv_neT z2 (by decide : (2 : Int32).toInt = 2); have q3 := lv_neT z3 (by decide : (3 : Int32).toInt = 3); omega) rfl ?_
    refine ag_iconst (q := 81) (v := -1) dX7_beast_80 rfl (by decide) ?_
    exact ag_iret dX7_beast_81 rfl rfl
  refine ag_iconst (q := 12) (v := -1) dX7_beast_11 rfl (by decide) ?_
  exact ag_iret dX7_beast_12 rfl rfl
theorem C_X7_beast {N : Nat} (hN : NC ≤ N) (a1 : Int32) (a2 : Int32) (σ : Sg) : ∀ r, J_X7_beast a1 a2 σ = some r → AMc yX7_beast mX7_beast [.ref 0, .int a1, .int a2] N R0 σ (some (.int r), N, R0, σ) := fun r e => AMc.of (L := [some (.ref 0), some (.int a1), some (.int a2)]) (by decide) rfl (fun _ => rfl) (fun _ => Nat.le_of_ble_eq_true rfl) (Nat.le_refl _) (fun K => A_X7_beast K hN a1 a2 σ _ e (Nat.le_refl _))
def J_X7_isWay (a0 : Int32) (σ : Sg) : Option Int32 :=
  (if a0 < 0 then (some (0 : Int32)) else (if (4 : Int32) ≤ a0 then (some (0 : Int32)) else (some (1 : Int32))))
set_option maxHeartbeats 4000000 in
theorem A_X7_isWay (K : KT) {N : Nat} (hN : NC ≤ N) (a0 : Int32) (σ : Sg) : AG K mX7_isWay N (fun a : Int32 => (some (.int a), N, R0, σ)) (J_X7_isWay a0 σ) 0 [some (.int a0)] [] σ := by
  unfold J_X7_isWay
  refine ag_iload_0 (q := 1) dX7_isWay_0 rfl ?_
  refine ag_if_lt (tgt := 13) (q := 4) dX7_isWay_1 rfl rfl ?_ ?_
  · refine ag_iconst (q := 14) (v := 0) dX7_isWay_13 rfl (by decide) ?_
    exact ag_zretK dX7_isWay_14 rfl (by decide) rfl
  refine ag_iload_0 (q := 5) dX7_isWay_4 rfl ?_
  refine ag_iconst (q := 6) (v := 4) dX7_isWay_5 rfl (by decide) ?_
  refine ag_icmp_ge (tgt := 13) (q := 9) dX7_isWay_6 rfl rfl ?_ ?_
  · refine ag_iconst (q := 14) (v := 0) dX7_isWay_13 rfl (by decide) ?_
    exact ag_zretK dX7_isWay_14 rfl (by decide) rfl
  refine ag_iconst (q := 10) (v := 1) dX7_isWay_9 rfl (by decide) ?_
  refine ag_goto (q := 14) dX7_isWay_10 rfl ?_
  exact ag_zretK dX7_isWay_14 rfl (by decide) rfl
theorem C_X7_isWay {N : Nat} (hN : NC ≤ N) (a0 : Int32) (σ : Sg) : ∀ r, J_X7_isWay a0 σ = some r → AMc yX7_isWay mX7_isWay [.int a0] N R0 σ (some (.int r), N, R0, σ) := fun r e => AMc.of (L := [some (.int a0)]) (by decide) rfl (fun _ => rfl) (fun _ => Nat.le_of_ble_eq_true rfl) (Nat.le_refl _) (fun K => A_X7_isWay K hN a0 σ _ e (Nat.le_refl _))
def J_X7_goes (a1 : Int32) (a2 : Int32) (σ : Sg) : Option Int32 :=
  (bd1 (J_X1_hasBeast 1 a1 σ) fun r5 => (if r5 = 0 then (some (-1 : Int32)) else (bd1 (J_X7_isWay a2 σ) fun r12 => (if r12 = 0 then (some (-1 : Int32)) else (bd1 (J_X2_isOff 14 a1 σ) fun r25 => (if r25 = 0 then (bd1 (J_X2_snowing 14 σ) fun r46 => (bd1 (J_X2_reach 14 a1 a2 r46 σ) fun r49 => (some r49))) else (some (-2 : Int32))))))))
set_option maxHeartbeats 4000000 in
theorem A_X7_goes (K : KT) {N : Nat} (hN : NC ≤ N) (a1 : Int32) (a2 : Int32) (σ : Sg) : AG K mX7_goes N (fun a : Int32 => (some (.int a), N, R0, σ)) (J_X7_goes a1 a2 σ) 0 [some (.ref 0), some (.int a1), some (.int a2)] [] σ := by
  unfold J_X7_goes
  refine ag_aload_0 (q := 1) dX7_goes_0 rfl ?_
  refine ag_getR (q := 4) dX7_goes_1 rfl fl7_10 (Nat.lt_of_lt_of_le (by decide : 0 < NC) hN) (congrArg Prod.fst s_0) rfl r_0_0 ?_
  refine ag_iload_1 (q := 5) dX7_goes_4 rfl ?_
  refine ag_callV_pI (q := 8) (av := [.int _]) (rest := []) dX7_goes_5 rfl lk7_107 (C_X1_hasBeast hN 1 (by decide) a1 _) (by decide) (Nat.le_of_ble_eq_true rfl) (Nat.lt_of_lt_of_le (by decide : 1 < NC) hN) (congrArg Prod.fst s_1) (by decide) (fun _ => rfl) (Nat.le_of_ble_eq_true rfl) rfl (fun r5 e5 => ?_)
  refine ag_if_eq (tgt := 18) (q := 11) dX7_goes_8 rfl rfl ?_ ?_
  · refine ag_iconst (q := 19) (v := -1) dX7_goes_18 rfl (by decide) ?_
    exact ag_iret dX7_goes_19 rfl rfl
  refine ag_iload_2 (q := 12) dX7_goes_11 rfl ?_
  refine ag_callS_pI (q := 15) (av := [.int _]) (rest := []) dX7_goes_12 rfl lk7_122 (C_X7_isWay hN a2 _) (by decide) (Nat.le_of_ble_eq_true rfl) (fun _ => rfl) (Nat.le_of_ble_eq_true rfl) rfl (fun r12 e12 => ?_)
  refine ag_if_ne (tgt := 20) (q := 18) dX7_goes_15 rfl rfl ?_ ?_
  · refine ag_aload_0 (q := 21) dX7_goes_20 rfl ?_
    refine ag_getR (q := 24) dX7_goes_21 rfl fl7_28 (Nat.lt_of_lt_of_le (by decide : 0 < NC) hN) (congrArg Prod.fst s_0) rfl r_0_2 ?_
    refine ag_iload_1 (q := 25) dX7_goes_24 rfl ?_
    refine ag_callV_pI (q := 28) (av := [.int _]) (rest := []) dX7_goes_25 rfl lk7_125 (C_X2_isOff hN 14 (by decide) a1 _) (by decide) (Nat.le_of_ble_eq_true rfl) (Nat.lt_of_lt_of_le (by decide : 14 < NC) hN) (congrArg Prod.fst s_14) (by decide) (fun _ => rfl) (Nat.le_of_ble_eq_true rfl) rfl (fun r25 e25 => ?_)
    refine ag_if_eq (tgt := 36) (q := 31) dX7_goes_28 rfl rfl ?_ ?_
    · refine ag_aload_0 (q := 37) dX7_goes_36 rfl ?_
      refine ag_getR (q := 40) dX7_goes_37 rfl fl7_28 (Nat.lt_of_lt_of_le (by decide : 0 < NC) hN) (congrArg Prod.fst s_0) rfl r_0_2 ?_
      refine ag_iload_1 (q := 41) dX7_goes_40 rfl ?_
      refine ag_iload_2 (q := 42) dX7_goes_41 rfl ?_
      refine ag_aload_0 (q := 43) dX7_goes_42 rfl ?_
      refine ag_getR (q := 46) dX7_goes_43 rfl fl7_28 (Nat.lt_of_lt_of_le (by decide : 0 < NC) hN) (congrArg Prod.fst s_0) rfl r_0_2 ?_
      refine ag_callV_pI (q := 49) (av := []) (rest := [.int _, .int _, .ref _]) dX7_goes_46 rfl lk7_128 (C_X2_snowing hN 14 (by decide) _) (by decide) (Nat.le_of_ble_eq_true rfl) (Nat.lt_of_lt_of_le (by decide : 14 < NC) hN) (congrArg Prod.fst s_14) (by decide) (fun _ => rfl) (Nat.le_of_ble_eq_true rfl) rfl (fun r46 e46 => ?_)
      refine ag_callV_pI (q := 52) (av := [.int _, .int _, .int _]) (rest := []) dX7_goes_49 rfl lk7_131 (C_X2_reach hN 14 (by decide) a1 a2 r46 _) (by decide) (Nat.le_of_ble_eq_true rfl) (Nat.lt_of_lt_of_le (by decide : 14 < NC) hN) (congrArg Prod.fst s_14) (by decide) (fun _ => rfl) (Nat.le_of_ble_eq_true rfl) rfl (fun r49 e49 => ?_)
      exact ag_iret dX7_goes_52 rfl rfl
    refine ag_bipush (q := 33) (v := -2) dX7_goes_31 rfl (by decide) ?_
    refine ag_goto (q := 52) dX7_goes_33 rfl ?_
    exact ag_iret dX7_goes_52 rfl rfl
  refine ag_iconst (q := 19) (v := -1) dX7_goes_18 rfl (by decide) ?_
  exact ag_iret dX7_goes_19 rfl rfl
theorem C_X7_goes {N : Nat} (hN : NC ≤ N) (a1 : Int32) (a2 : Int32) (σ : Sg) : ∀ r, J_X7_goes a1 a2 σ = some r → AMc yX7_goes mX7_goes [.ref 0, .int a1, .int a2] N R0 σ (some (.int r), N, R0, σ) := fun r e => AMc.of (L := [some (.ref 0), some (.int a1), some (.int a2)]) (by decide) rfl (fun _ => rfl) (fun _ => Nat.le_of_ble_eq_true rfl) (Nat.le_refl _) (fun K => A_X7_goes K hN a1 a2 σ _ e (Nat.le_refl _))
def J_X7_takes (a1 : Int32) (a2 : Int32) (σ : Sg) : Option Int32 :=
  (bd1 (J_X1_hasBeast 1 a1 σ) fun r5 => (if r5 = 0 then (some (-1 : Int32)) else (bd1 (J_X7_isWay a2 σ) fun r12 => (if r12 = 0 then (some (-1 : Int32)) else (bd1 (J_X2_isOff 14 a1 σ) fun r25 => (if r25 = 0 then (bd1 (J_X2_snowing 14 σ) fun r50 => (bd1 (J_X2_reach 14 a1 a2 r50 σ) fun r53 => (bd1 (J_X2_occupant 14 r53 σ) fun r56 => (some r56)))) else (some (-2 : Int32))))))))
set_option maxHeartbeats 4000000 in
theorem A_X7_takes (K : KT) {N : Nat} (hN : NC ≤ N) (a1 : Int32) (a2 : Int32) (σ : Sg) : AG K mX7_takes N (fun a : Int32 => (some (.int a), N, R0, σ)) (J_X7_takes a1 a2 σ) 0 [some (.ref 0), some (.int a1), some (.int a2)] [] σ := by
  unfold J_X7_takes
  refine ag_aload_0 (q := 1) dX7_takes_0 rfl ?_
  refine ag_getR (q := 4) dX7_takes_1 rfl fl7_10 (Nat.lt_of_lt_of_le (by decide : 0 < NC) hN) (congrArg Prod.fst s_0) rfl r_0_0 ?_
  refine ag_iload_1 (q := 5) dX7_takes_4 rfl ?_
  refine ag_callV_pI (q := 8) (av := [.int _]) (rest := []) dX7_takes_5 rfl lk7_107 (C_X1_hasBeast hN 1 (by decide) a1 _) (by decide) (Nat.le_of_ble_eq_true rfl) (Nat.lt_of_lt_of_le (by decide : 1 < NC) hN) (congrArg Prod.fst s_1) (by decide) (fun _ => rfl) (Nat.le_of_ble_eq_true rfl) rfl (fun r5 e5 => ?_)
  refine ag_if_eq (tgt := 18) (q := 11) dX7_takes_8 rfl rfl ?_ ?_
  · refine ag_iconst (q := 19) (v := -1) dX7_takes_18 rfl (by decide) ?_
    exact ag_iret dX7_takes_19 rfl rfl
  refine ag_iload_2 (q := 12) dX7_takes_11 rfl ?_
  refine ag_callS_pI (q := 15) (av := [.int _]) (rest := []) dX7_takes_12 rfl lk7_122 (C_X7_isWay hN a2 _) (by decide) (Nat.le_of_ble_eq_true rfl) (fun _ => rfl) (Nat.le_of_ble_eq_true rfl) rfl (fun r12 e12 => ?_)
  refine ag_if_ne (tgt := 20) (q := 18) dX7_takes_15 rfl rfl ?_ ?_
  · refine ag_aload_0 (q := 21) dX7_takes_20 rfl ?_
    refine ag_getR (q := 24) dX7_takes_21 rfl fl7_28 (Nat.lt_of_lt_of_le (by decide : 0 < NC) hN) (congrArg Prod.fst s_0) rfl r_0_2 ?_
    refine ag_iload_1 (q := 25) dX7_takes_24 rfl ?_
    refine ag_callV_pI (q := 28) (av := [.int _]) (rest := []) dX7_takes_25 rfl lk7_125 (C_X2_isOff hN 14 (by decide) a1 _) (by decide) (Nat.le_of_ble_eq_true rfl) (Nat.lt_of_lt_of_le (by decide : 14 < NC) hN) (congrArg Prod.fst s_14) (by decide) (fun _ => rfl) (Nat.le_of_ble_eq_true rfl) rfl (fun r25 e25 => ?_)
    refine ag_if_eq (tgt := 36) (q := 31) dX7_takes_28 rfl rfl ?_ ?_
    · refine ag_aload_0 (q := 37) dX7_takes_36 rfl ?_
      refine ag_getR (q := 40) dX7_takes_37 rfl fl7_28 (Nat.lt_of_lt_of_le (by decide : 0 < NC) hN) (congrArg Prod.fst s_0) rfl r_0_2 ?_
      refine ag_aload_0 (q := 41) dX7_takes_40 rfl ?_
      refine ag_getR (q := 44) dX7_takes_41 rfl fl7_28 (Nat.lt_of_lt_of_le (by decide : 0 < NC) hN) (congrArg Prod.fst s_0) rfl r_0_2 ?_
      refine ag_iload_1 (q := 45) dX7_takes_44 rfl ?_
      refine ag_iload_2 (q := 46) dX7_takes_45 rfl ?_
      refine ag_aload_0 (q := 47) dX7_takes_46 rfl ?_
      refine ag_getR (q := 50) dX7_takes_47 rfl fl7_28 (Nat.lt_of_lt_of_le (by decide : 0 < NC) hN) (congrArg Prod.fst s_0) rfl r_0_2 ?_
      refine ag_callV_pI (q := 53) (av := []) (rest := [.int _, .int _, .ref _, .ref _]) dX7_takes_50 rfl lk7_128 (C_X2_snowing hN 14 (by decide) _) (by decide) (Nat.le_of_ble_eq_true rfl) (Nat.lt_of_lt_of_le (by decide : 14 < NC) hN) (congrArg Prod.fst s_14) (by decide) (fun _ => rfl) (Nat.le_of_ble_eq_true rfl) rfl (fun r50 e50 => ?_)
      refine ag_callV_pI (q := 56) (av := [.int _, .int _, .int _]) (rest := [.ref _]) dX7_takes_53 rfl lk7_131 (C_X2_reach hN 14 (by decide) a1 a2 r50 _) (by decide) (Nat.le_of_ble_eq_true rfl) (Nat.lt_of_lt_of_le (by decide : 14 < NC) hN) (congrArg Prod.fst s_14) (by decide) (fun _ => rfl) (Nat.le_of_ble_eq_true rfl) rfl (fun r53 e53 => ?_)
      refine ag_callV_pI (q := 59) (av := [.int _]) (rest := []) dX7_takes_56 rfl lk7_104 (C_X2_occupant hN 14 (by decide) r53 _) (by decide) (Nat.le_of_ble_eq_true rfl) (Nat.lt_of_lt_of_le (by decide : 14 < NC) hN) (congrArg Prod.fst s_14) (by decide) (fun _ => rfl) (Nat.le_of_ble_eq_true rfl) rfl (fun r56 e56 => ?_)
      exact ag_iret dX7_takes_59 rfl rfl
    refine ag_bipush (q := 33) (v := -2) dX7_takes_31 rfl (by decide) ?_
    refine ag_goto (q := 59) dX7_takes_33 rfl ?_
    exact ag_iret dX7_takes_59 rfl rfl
  refine ag_iconst (q := 19) (v := -1) dX7_takes_18 rfl (by decide) ?_
  exact ag_iret dX7_takes_19 rfl rfl
theorem C_X7_takes {N : Nat} (hN : NC ≤ N) (a1 : Int32) (a2 : Int32) (σ : Sg) : ∀ r, J_X7_takes a1 a2 σ = some r → AMc yX7_takes mX7_takes [.ref 0, .int a1, .int a2] N R0 σ (some (.int r), N, R0, σ) := fun r e => AMc.of (L := [some (.ref 0), some (.int a1), some (.int a2)]) (by decide) rfl (fun _ => rfl) (fun _ => Nat.le_of_ble_eq_true rfl) (Nat.le_refl _) (fun K => A_X7_takes K hN a1 a2 σ _ e (Nat.le_refl _))
def J_X7_drive (a1 : Int32) (a2 : Int32) (σ : Sg) : Option (Int32 × Sg) :=
  (bd1 (J_X1_hasBeast 1 a1 σ) fun r5 => (if r5 = 0 then (some ((-1 : Int32), σ)) else (bd1 (J_X7_isWay a2 σ) fun r12 => (if r12 = 0 then (some ((-1 : Int32), σ)) else (bd1 (J_X2_driven 14 a1 a2 σ) fun r26 => (if r26 = (-4 : Int32) then (some ((-2 : Int32), σ)) else (bd1 (J_X2_lost 14 σ) fun r40 => (if r40 = 0 then (bd2 (J_X3_add 14 (((10 : Int32) * a1) + a2) σ) fun r63 s63 => (bd2 (J_X2_move 14 a1 r26 s63) fun r72 s72 => (bd2 (J_X2_passDay 14 s72) fun r79 s79 => (some (r26, s79))))) else (some ((-2 : Int32), σ))))))))))
set_option maxHeartbeats 4000000 in
theorem A_X7_drive (K : KT) {N : Nat} (hN : NC ≤ N) (a1 : Int32) (a2 : Int32) (σ : Sg) : AG K mX7_drive N (fun a : Int32 × Sg => (some (.int a.1), N, R0, a.2)) (J_X7_drive a1 a2 σ) 0 [some (.ref 0), some (.int a1), some (.int a2), none] [] σ := by
  unfold J_X7_drive
  refine ag_aload_0 (q := 1) dX7_drive_0 rfl ?_
  refine ag_getR (q := 4) dX7_drive_1 rfl fl7_10 (Nat.lt_of_lt_of_le (by decide : 0 < NC) hN) (congrArg Prod.fst s_0) rfl r_0_0 ?_
  refine ag_iload_1 (q := 5) dX7_drive_4 rfl ?_
  refine ag_callV_pI (q := 8) (av := [.int _]) (rest := []) dX7_drive_5 rfl lk7_107 (C_X1_hasBeast hN 1 (by decide) a1 _) (by decide) (Nat.le_of_ble_eq_true rfl) (Nat.lt_of_lt_of_le (by decide : 1 < NC) hN) (congrArg Prod.fst s_1) (by decide) (fun _ => rfl) (Nat.le_of_ble_eq_true rfl) rfl (fun r5 e5 => ?_)
  refine ag_if_eq (tgt := 18) (q := 11) dX7_drive_8 rfl rfl ?_ ?_
  · refine ag_iconst (q := 19) (v := -1) dX7_drive_18 rfl (by decide) ?_
    exact ag_iret dX7_drive_19 rfl rfl
  refine ag_iload_2 (q := 12) dX7_drive_11 rfl ?_
  refine ag_callS_pI (q := 15) (av := [.int _]) (rest := []) dX7_drive_12 rfl lk7_122 (C_X7_isWay hN a2 _) (by decide) (Nat.le_of_ble_eq_true rfl) (fun _ => rfl) (Nat.le_of_ble_eq_true rfl) rfl (fun r12 e12 => ?_)
  refine ag_if_ne (tgt := 20) (q := 18) dX7_drive_15 rfl rfl ?_ ?_
  · refine ag_aload_0 (q := 21) dX7_drive_20 rfl ?_
    refine ag_getR (q := 24) dX7_drive_21 rfl fl7_28 (Nat.lt_of_lt_of_le (by decide : 0 < NC) hN) (congrArg Prod.fst s_0) rfl r_0_2 ?_
    refine ag_iload_1 (q := 25) dX7_drive_24 rfl ?_
    refine ag_iload_2 (q := 26) dX7_drive_25 rfl ?_
    refine ag_callV_pI (q := 29) (av := [.int _, .int _]) (rest := []) dX7_drive_26 rfl lk7_135 (C_X2_driven hN 14 (by decide) a1 a2 _) (by decide) (Nat.le_of_ble_eq_true rfl) (Nat.lt_of_lt_of_le (by decide : 14 < NC) hN) (congrArg Prod.fst s_14) (by decide) (fun _ => rfl) (Nat.le_of_ble_eq_true rfl) rfl (fun r26 e26 => ?_)
    refine ag_istore_3 (q := 30) dX7_drive_29 rfl (Nat.le_of_ble_eq_true rfl) rfl ?_
    refine ag_iload_3 (q := 31) dX7_drive_30 rfl ?_
    refine ag_bipush (q := 33) (v := -4) dX7_drive_31 rfl (by decide) ?_
    refine ag_icmp_eq (tgt := 46) (q := 36) dX7_drive_33 rfl rfl ?_ ?_
    · refine ag_bipush (q := 48) (v := -2) dX7_drive_46 rfl (by decide) ?_
      exact ag_iret dX7_drive_48 rfl rfl
    refine ag_aload_0 (q := 37) dX7_drive_36 rfl ?_
    refine ag_getR (q := 40) dX7_drive_37 rfl fl7_28 (Nat.lt_of_lt_of_le (by decide : 0 < NC) hN) (congrArg Prod.fst s_0) rfl r_0_2 ?_
    refine ag_callV_pI (q := 43) (av := []) (rest := []) dX7_drive_40 rfl lk7_139 (C_X2_lost hN 14 (by decide) _) (by decide) (Nat.le_of_ble_eq_true rfl) (Nat.lt_of_lt_of_le (by decide : 14 < NC) hN) (congrArg Prod.fst s_14) (by decide) (fun _ => rfl) (Nat.le_of_ble_eq_true rfl) rfl (fun r40 e40 => ?_)
    refine ag_if_eq (tgt := 49) (q := 46) dX7_drive_43 rfl rfl ?_ ?_
    · refine ag_aload_0 (q := 50) dX7_drive_49 rfl ?_
      refine ag_getR (q := 53) dX7_drive_50 rfl fl7_38 (Nat.lt_of_lt_of_le (by decide : 0 < NC) hN) (congrArg Prod.fst s_0) rfl r_0_4 ?_
      refine ag_aload_0 (q := 54) dX7_drive_53 rfl ?_
      refine ag_getR (q := 57) dX7_drive_54 rfl fl7_28 (Nat.lt_of_lt_of_le (by decide : 0 < NC) hN) (congrArg Prod.fst s_0) rfl r_0_2 ?_
      refine ag_bipush (q := 59) (v := 10) dX7_drive_57 rfl (by decide) ?_
      refine ag_iload_1 (q := 60) dX7_drive_59 rfl ?_
      refine ag_imul (q := 61) dX7_drive_60 rfl ?_
      refine ag_iload_2 (q := 62) dX7_drive_61 rfl ?_
      refine ag_iadd (q := 63) dX7_drive_62 rfl ?_
      refine ag_callV_mU (q := 66) (av := [.ref _, .int _]) (rest := []) dX7_drive_63 rfl lk7_142 (C_X3_add hN 14 (by decide) (((10 : Int32) * a1) + a2) _) (by decide) (Nat.le_of_ble_eq_true rfl) (Nat.lt_of_lt_of_le (by decide : 24 < NC) hN) (congrArg Prod.fst s_24) (by decide) (fun _ => rfl) (Nat.le_of_ble_eq_true rfl) rfl (fun r63 s63 e63 => ?_)
      refine ag_aload_0 (q := 67) dX7_drive_66 rfl ?_
      refine ag_getR (q := 70) dX7_drive_67 rfl fl7_28 (Nat.lt_of_lt_of_le (by decide : 0 < NC) hN) (congrArg Prod.fst s_0) rfl r_0_2 ?_
      refine ag_iload_1 (q := 71) dX7_drive_70 rfl ?_
      refine ag_iload_3 (q := 72) dX7_drive_71 rfl ?_
      refine ag_callV_mU (q := 75) (av := [.int _, .int _]) (rest := []) dX7_drive_72 rfl lk7_145 (C_X2_move hN 14 (by decide) a1 r26 _) (by decide) (Nat.le_of_ble_eq_true rfl) (Nat.lt_of_lt_of_le (by decide : 14 < NC) hN) (congrArg Prod.fst s_14) (by decide) (fun _ => rfl) (Nat.le_of_ble_eq_true rfl) rfl (fun r72 s72 e72 => ?_)
      refine ag_aload_0 (q := 76) dX7_drive_75 rfl ?_
      refine ag_getR (q := 79) dX7_drive_76 rfl fl7_28 (Nat.lt_of_lt_of_le (by decide : 0 < NC) hN) (congrArg Prod.fst s_0) rfl r_0_2 ?_
      refine ag_callV_mU (q := 82) (av := []) (rest := []) dX7_drive_79 rfl lk7_149 (C_X2_passDay hN 14 (by decide) _) (by decide) (Nat.le_of_ble_eq_true rfl) (Nat.lt_of_lt_of_le (by decide : 14 < NC) hN) (congrArg Prod.fst s_14) (by decide) (fun _ => rfl) (Nat.le_of_ble_eq_true rfl) rfl (fun r79 s79 e79 => ?_)
      refine ag_iload_3 (q := 83) dX7_drive_82 rfl ?_
      exact ag_iret dX7_drive_83 rfl rfl
    refine ag_bipush (q := 48) (v := -2) dX7_drive_46 rfl (by decide) ?_
    exact ag_iret dX7_drive_48 rfl rfl
  refine ag_iconst (q := 19) (v := -1) dX7_drive_18 rfl (by decide) ?_
  exact ag_iret dX7_drive_19 rfl rfl
theorem C_X7_drive {N : Nat} (hN : NC ≤ N) (a1 : Int32) (a2 : Int32) (σ : Sg) : ∀ r s', J_X7_drive a1 a2 σ = some (r, s') → AMc yX7_drive mX7_drive [.ref 0, .int a1, .int a2] N R0 σ (some (.int r), N, R0, s') := fun r s' e => AMc.of (L := [some (.ref 0), some (.int a1), some (.int a2), none]) (by decide) rfl (fun _ => rfl) (fun _ => Nat.le_of_ble_eq_true rfl) (Nat.le_refl _) (fun K => A_X7_drive K hN a1 a2 σ _ e (Nat.le_refl _))
def J_X7_rest  (σ : Sg) : Option (Int32 × Sg) :=
  (bd1 (J_X2_lost 14 σ) fun r4 => (if r4 = 0 then (bd2 (J_X3_add 14 (99 : Int32) σ) fun r23 s23 => (bd2 (J_X2_passDay 14 s23) fun r30 s30 => (some ((s30 14 5), s30)))) else (some ((-2 : Int32), σ))))
set_option maxHeartbeats 4000000 in
theorem A_X7_rest (K : KT) {N : Nat} (hN : NC ≤ N)  (σ : Sg) : AG K mX7_rest N (fun a : Int32 × Sg => (some (.int a.1), N, R0, a.2)) (J_X7_rest  σ) 0 [some (.ref 0)] [] σ := by
  unfold J_X7_rest
  refine ag_aload_0 (q := 1) dX7_rest_0 rfl ?_
  refine ag_getR (q := 4) dX7_rest_1 rfl fl7_28 (Nat.lt_of_lt_of_le (by decide : 0 < NC) hN) (congrArg Prod.fst s_0) rfl r_0_2 ?_
  refine ag_callV_pI (q := 7) (av := []) (rest := []) dX7_rest_4 rfl lk7_139 (C_X2_lost hN 14 (by decide) _) (by decide) (Nat.le_of_ble_eq_true rfl) (Nat.lt_of_lt_of_le (by decide : 14 < NC) hN) (congrArg Prod.fst s_14) (by decide) (fun _ => rfl) (Nat.le_of_ble_eq_true rfl) rfl (fun r4 e4 => ?_)
  refine ag_if_eq (tgt := 13) (q := 10) dX7_rest_7 rfl rfl ?_ ?_
  · refine ag_aload_0 (q := 14) dX7_rest_13 rfl ?_
    refine ag_getR (q := 17) dX7_rest_14 rfl fl7_38 (Nat.lt_of_lt_of_le (by decide : 0 < NC) hN) (congrArg Prod.fst s_0) rfl r_0_4 ?_
    refine ag_aload_0 (q := 18) dX7_rest_17 rfl ?_
    refine ag_getR (q := 21) dX7_rest_18 rfl fl7_28 (Nat.lt_of_lt_of_le (by decide : 0 < NC) hN) (congrArg Prod.fst s_0) rfl r_0_2 ?_
    refine ag_bipush (q := 23) (v := 99) dX7_rest_21 rfl (by decide) ?_
    refine ag_callV_mU (q := 26) (av := [.ref _, .int _]) (rest := []) dX7_rest_23 rfl lk7_142 (C_X3_add hN 14 (by decide) (99 : Int32) _) (by decide) (Nat.le_of_ble_eq_true rfl) (Nat.lt_of_lt_of_le (by decide : 24 < NC) hN) (congrArg Prod.fst s_24) (by decide) (fun _ => rfl) (Nat.le_of_ble_eq_true rfl) rfl (fun r23 s23 e23 => ?_)
    refine ag_aload_0 (q := 27) dX7_rest_26 rfl ?_
    refine ag_getR (q := 30) dX7_rest_27 rfl fl7_28 (Nat.lt_of_lt_of_le (by decide : 0 < NC) hN) (congrArg Prod.fst s_0) rfl r_0_2 ?_
    refine ag_callV_mU (q := 33) (av := []) (rest := []) dX7_rest_30 rfl lk7_149 (C_X2_passDay hN 14 (by decide) _) (by decide) (Nat.le_of_ble_eq_true rfl) (Nat.lt_of_lt_of_le (by decide : 14 < NC) hN) (congrArg Prod.fst s_14) (by decide) (fun _ => rfl) (Nat.le_of_ble_eq_true rfl) rfl (fun r30 s30 e30 => ?_)
    refine ag_aload_0 (q := 34) dX7_rest_33 rfl ?_
    refine ag_getR (q := 37) dX7_rest_34 rfl fl7_28 (Nat.lt_of_lt_of_le (by decide : 0 < NC) hN) (congrArg Prod.fst s_0) rfl r_0_2 ?_
    refine ag_getI (q := 40) dX7_rest_37 rfl fl7_152 (Nat.lt_of_lt_of_le (by decide : 14 < NC) hN) (congrArg Prod.fst s_14) rfl ?_
    exact ag_iret dX7_rest_40 rfl rfl
  refine ag_bipush (q := 12) (v := -2) dX7_rest_10 rfl (by decide) ?_
  exact ag_iret dX7_rest_12 rfl rfl
theorem C_X7_rest {N : Nat} (hN : NC ≤ N)  (σ : Sg) : ∀ r s', J_X7_rest  σ = some (r, s') → AMc yX7_rest mX7_rest [.ref 0] N R0 σ (some (.int r), N, R0, s') := fun r s' e => AMc.of (L := [some (.ref 0)]) (by decide) rfl (fun _ => rfl) (fun _ => Nat.le_of_ble_eq_true rfl) (Nat.le_refl _) (fun K => A_X7_rest K hN  σ _ e (Nat.le_refl _))
def J_X7_undo  (σ : Sg) : Option (Int32 × Sg) :=
  (if (1 : Int32) ≤ (σ 24 3) then (bd1 (J_X3_before ((up σ 24 3 ((σ 24 3) - (1 : Int32))) 24 3) (up σ 24 3 ((σ 24 3) - (1 : Int32)))) fun r42 => (bd2 (J_X2_copyFrom 14 r42 (up σ 24 3 ((σ 24 3) - (1 : Int32)))) fun r45 s45 => (some ((s45 24 3), s45)))) else (some ((-2 : Int32), σ)))
set_option maxHeartbeats 4000000 in
theorem A_X7_undo (K : KT) {N : Nat} (hN : NC ≤ N)  (σ : Sg) : AG K mX7_undo N (fun a : Int32 × Sg => (some (.int a.1), N, R0, a.2)) (J_X7_undo  σ) 0 [some (.ref 0)] [] σ := by
  unfold J_X7_undo
  refine ag_aload_0 (q := 1) dX7_undo_0 rfl ?_
  refine ag_getR (q := 4) dX7_undo_1 rfl fl7_38 (Nat.lt_of_lt_of_le (by decide : 0 < NC) hN) (congrArg Prod.fst s_0) rfl r_0_4 ?_
  refine ag_getI (q := 7) dX7_undo_4 rfl fl7_155 (Nat.lt_of_lt_of_le (by decide : 24 < NC) hN) (congrArg Prod.fst s_24) rfl ?_
  refine ag_iconst (q := 8) (v := 1) dX7_undo_7 rfl (by decide) ?_
  refine ag_icmp_ge (tgt := 14) (q := 11) dX7_undo_8 rfl rfl ?_ ?_
  · refine ag_aload_0 (q := 15) dX7_undo_14 rfl ?_
    refine ag_getR (q := 18) dX7_undo_15 rfl fl7_38 (Nat.lt_of_lt_of_le (by decide : 0 < NC) hN) (congrArg Prod.fst s_0) rfl r_0_4 ?_
    refine ag_dup (q := 19) dX7_undo_18 rfl rfl ?_
    refine ag_getI (q := 22) dX7_undo_19 rfl fl7_155 (Nat.lt_of_lt_of_le (by decide : 24 < NC) hN) (congrArg Prod.fst s_24) rfl ?_
    refine ag_iconst (q := 23) (v := 1) dX7_undo_22 rfl (by decide) ?_
    refine ag_isub (q := 24) dX7_undo_23 rfl ?_
    refine ag_putI (q := 27) dX7_undo_24 rfl fl7_155 (Nat.lt_of_lt_of_le (by decide : 24 < NC) hN) (congrArg Prod.fst s_24) rfl ?_
    refine ag_aload_0 (q := 28) dX7_undo_27 rfl ?_
    refine ag_getR (q := 31) dX7_undo_28 rfl fl7_28 (Nat.lt_of_lt_of_le (by decide : 0 < NC) hN) (congrArg Prod.fst s_0) rfl r_0_2 ?_
    refine ag_aload_0 (q := 32) dX7_undo_31 rfl ?_
    refine ag_getR (q := 35) dX7_undo_32 rfl fl7_38 (Nat.lt_of_lt_of_le (by decide : 0 < NC) hN) (congrArg Prod.fst s_0) rfl r_0_4 ?_
    refine ag_aload_0 (q := 36) dX7_undo_35 rfl ?_
    refine ag_getR (q := 39) dX7_undo_36 rfl fl7_38 (Nat.lt_of_lt_of_le (by decide : 0 < NC) hN) (congrArg Prod.fst s_0) rfl r_0_4 ?_
    refine ag_getI (q := 42) dX7_undo_39 rfl fl7_155 (Nat.lt_of_lt_of_le (by decide : 24 < NC) hN) (congrArg Prod.fst s_24) rfl ?_
    refine ag_callV_pR (q := 45) (av := [.int _]) (rest := [.ref _]) dX7_undo_42 rfl lk7_158 (C_X3_before hN ((up σ 24 3 ((σ 24 3) - (1 : Int32))) 24 3) _) (by decide) (Nat.le_of_ble_eq_true rfl) (Nat.lt_of_lt_of_le (by decide : 24 < NC) hN) (congrArg Prod.fst s_24) (by decide) (fun _ => rfl) (Nat.le_of_ble_eq_true rfl) rfl (fun r42 e42 => ?_)
    refine ag_callV_mU (q := 48) (av := [.ref _]) (rest := []) dX7_undo_45 rfl lk7_162 (C_X2_copyFrom hN 14 (by decide) r42 (G_X3_before e42) _) (by decide) (Nat.le_of_ble_eq_true rfl) (Nat.lt_of_lt_of_le (by decide : 14 < NC) hN) (congrArg Prod.fst s_14) (by decide) (fun _ => rfl) (Nat.le_of_ble_eq_true rfl) rfl (fun r45 s45 e45 => ?_)
    refine ag_aload_0 (q := 49) dX7_undo_48 rfl ?_
    refine ag_getR (q := 52) dX7_undo_49 rfl fl7_38 (Nat.lt_of_lt_of_le (by decide : 0 < NC) hN) (congrArg Prod.fst s_0) rfl r_0_4 ?_
    refine ag_getI (q := 55) dX7_undo_52 rfl fl7_155 (Nat.lt_of_lt_of_le (by decide : 24 < NC) hN) (congrArg Prod.fst s_24) rfl ?_
    exact ag_iret dX7_undo_55 rfl rfl
  refine ag_bipush (q := 13) (v := -2) dX7_undo_11 rfl (by decide) ?_
  exact ag_iret dX7_undo_13 rfl rfl
theorem C_X7_undo {N : Nat} (hN : NC ≤ N)  (σ : Sg) : ∀ r s', J_X7_undo  σ = some (r, s') → AMc yX7_undo mX7_undo [.ref 0] N R0 σ (some (.int r), N, R0, s') := fun r s' e => AMc.of (L := [some (.ref 0)]) (by decide) rfl (fun _ => rfl) (fun _ => Nat.le_of_ble_eq_true rfl) (Nat.le_refl _) (fun K => A_X7_undo K hN  σ _ e (Nat.le_refl _))
def J_X7_fewest (a1 : Int32) (a2 : Int32) (a3 : Int32) (σ : Sg) : Option (Int32 × Sg) :=
  (bd1 (J_X1_hasBeast 1 a1 σ) fun r5 => (if r5 = 0 then (some ((-1 : Int32), σ)) else (bd1 (J_X1_hasSquare 1 a2 σ) fun r16 => (if r16 = 0 then (some ((-1 : Int32), σ)) else (if (-1 : Int32) ≤ a3 then (bd1 (J_X2_isOff 14 a1 σ) fun r34 => (if r34 = 0 then (bd2 (J_X6_from 14 a1 σ) fun r52 s52 => (bd1 (J_X6_first a2 s52) fun r60 => (if a3 = (-1 : Int32) then (bd1 (J_X6_drivesTo r60 s52) fun r76 => (some (r76, s52))) else (bd1 (J_X6_wayTo r60 a3 s52) fun r89 => (some (r89, s52)))))) else (some ((-2 : Int32), σ)))) else (some ((-1 : Int32), σ)))))))
set_option maxHeartbeats 4000000 in
theorem A_X7_fewest (K : KT) {N : Nat} (hN : NC ≤ N) (a1 : Int32) (a2 : Int32) (a3 : Int32) (σ : Sg) : AG K mX7_fewest N (fun a : Int32 × Sg => (some (.int a.1), N, R0, a.2)) (J_X7_fewest a1 a2 a3 σ) 0 [some (.ref 0), some (.int a1), some (.int a2), some (.int a3), none] [] σ := by
  unfold J_X7_fewest
  refine ag_aload_0 (q := 1) dX7_fewest_0 rfl ?_
  refine ag_getR (q := 4) dX7_fewest_1 rfl fl7_10 (Nat.lt_of_lt_of_le (by decide : 0 < NC) hN) (congrArg Prod.fst s_0) rfl r_0_0 ?_
  refine ag_iload_1 (q := 5) dX7_fewest_4 rfl ?_
  refine ag_callV_pI (q := 8) (av := [.int _]) (rest := []) dX7_fewest_5 rfl lk7_107 (C_X1_hasBeast hN 1 (by decide) a1 _) (by decide) (Nat.le_of_ble_eq_true rfl) (Nat.lt_of_lt_of_le (by decide : 1 < NC) hN) (congrArg Prod.fst s_1) (by decide) (fun _ => rfl) (Nat.le_of_ble_eq_true rfl) rfl (fun r5 e5 => ?_)
  refine ag_if_eq (tgt := 27) (q := 11) dX7_fewest_8 rfl rfl ?_ ?_
  · refine ag_iconst (q := 28) (v := -1) dX7_fewest_27 rfl (by decide) ?_
    exact ag_iret dX7_fewest_28 rfl rfl
  refine ag_aload_0 (q := 12) dX7_fewest_11 rfl ?_
  refine ag_getR (q := 15) dX7_fewest_12 rfl fl7_10 (Nat.lt_of_lt_of_le (by decide : 0 < NC) hN) (congrArg Prod.fst s_0) rfl r_0_0 ?_
  refine ag_iload_2 (q := 16) dX7_fewest_15 rfl ?_
  refine ag_callV_pI (q := 19) (av := [.int _]) (rest := []) dX7_fewest_16 rfl lk7_97 (C_X1_hasSquare hN 1 (by decide) a2 _) (by decide) (Nat.le_of_ble_eq_true rfl) (Nat.lt_of_lt_of_le (by decide : 1 < NC) hN) (congrArg Prod.fst s_1) (by decide) (fun _ => rfl) (Nat.le_of_ble_eq_true rfl) rfl (fun r16 e16 => ?_)
  refine ag_if_eq (tgt := 27) (q := 22) dX7_fewest_19 rfl rfl ?_ ?_
  · refine ag_iconst (q := 28) (v := -1) dX7_fewest_27 rfl (by decide) ?_
    exact ag_iret dX7_fewest_28 rfl rfl
  refine ag_iload_3 (q := 23) dX7_fewest_22 rfl ?_
  refine ag_iconst (q := 24) (v := -1) dX7_fewest_23 rfl (by decide) ?_
  refine ag_icmp_ge (tgt := 29) (q := 27) dX7_fewest_24 rfl rfl ?_ ?_
  · refine ag_aload_0 (q := 30) dX7_fewest_29 rfl ?_
    refine ag_getR (q := 33) dX7_fewest_30 rfl fl7_28 (Nat.lt_of_lt_of_le (by decide : 0 < NC) hN) (congrArg Prod.fst s_0) rfl r_0_2 ?_
    refine ag_iload_1 (q := 34) dX7_fewest_33 rfl ?_
    refine ag_callV_pI (q := 37) (av := [.int _]) (rest := []) dX7_fewest_34 rfl lk7_125 (C_X2_isOff hN 14 (by decide) a1 _) (by decide) (Nat.le_of_ble_eq_true rfl) (Nat.lt_of_lt_of_le (by decide : 14 < NC) hN) (congrArg Prod.fst s_14) (by decide) (fun _ => rfl) (Nat.le_of_ble_eq_true rfl) rfl (fun r34 e34 => ?_)
    refine ag_if_eq (tgt := 43) (q := 40) dX7_fewest_37 rfl rfl ?_ ?_
    · refine ag_aload_0 (q := 44) dX7_fewest_43 rfl ?_
      refine ag_getR (q := 47) dX7_fewest_44 rfl fl7_54 (Nat.lt_of_lt_of_le (by decide : 0 < NC) hN) (congrArg Prod.fst s_0) rfl r_0_6 ?_
      refine ag_aload_0 (q := 48) dX7_fewest_47 rfl ?_
      refine ag_getR (q := 51) dX7_fewest_48 rfl fl7_28 (Nat.lt_of_lt_of_le (by decide : 0 < NC) hN) (congrArg Prod.fst s_0) rfl r_0_2 ?_
      refine ag_iload_1 (q := 52) dX7_fewest_51 rfl ?_
      refine ag_callV_mU (q := 55) (av := [.ref _, .int _]) (rest := []) dX7_fewest_52 rfl lk7_166 (C_X6_from hN 14 (by decide) a1 _) (by decide) (Nat.le_of_ble_eq_true rfl) (Nat.lt_of_lt_of_le (by decide : 80 < NC) hN) (congrArg Prod.fst s_80) (by decide) (fun _ => rfl) (Nat.le_of_ble_eq_true rfl) rfl (fun r52 s52 e52 => ?_)
      refine ag_aload_0 (q := 56) dX7_fewest_55 rfl ?_
      refine ag_getR (q := 59) dX7_fewest_56 rfl fl7_54 (Nat.lt_of_lt_of_le (by decide : 0 < NC) hN) (congrArg Prod.fst s_0) rfl r_0_6 ?_
      refine ag_iload_2 (q := 60) dX7_fewest_59 rfl ?_
      refine ag_callV_pI (q := 63) (av := [.int _]) (rest := []) dX7_fewest_60 rfl lk7_169 (C_X6_first hN a2 _) (by decide) (Nat.le_of_ble_eq_true rfl) (Nat.lt_of_lt_of_le (by decide : 80 < NC) hN) (congrArg Prod.fst s_80) (by decide) (fun _ => rfl) (Nat.le_of_ble_eq_true rfl) rfl (fun r60 e60 => ?_)
      refine ag_istore_4 (q := 65) dX7_fewest_63 rfl (Nat.le_of_ble_eq_true rfl) rfl ?_
      refine ag_iload_3 (q := 66) dX7_fewest_65 rfl ?_
      refine ag_iconst (q := 67) (v := -1) dX7_fewest_66 rfl (by decide) ?_
      refine ag_icmp_ne (tgt := 82) (q := 70) dX7_fewest_67 rfl rfl ?_ ?_
      · refine ag_aload_0 (q := 83) dX7_fewest_82 rfl ?_
        refine ag_getR (q := 86) dX7_fewest_83 rfl fl7_54 (Nat.lt_of_lt_of_le (by decide : 0 < NC) hN) (congrArg Prod.fst s_0) rfl r_0_6 ?_
        refine ag_iload_4 (q := 88) dX7_fewest_86 rfl ?_
        refine ag_iload_3 (q := 89) dX7_fewest_88 rfl ?_
        refine ag_callV_pI (q := 92) (av := [.int _, .int _]) (rest := []) dX7_fewest_89 rfl lk7_175 (C_X6_wayTo hN r60 a3 _) (by decide) (Nat.le_of_ble_eq_true rfl) (Nat.lt_of_lt_of_le (by decide : 80 < NC) hN) (congrArg Prod.fst s_80) (by decide) (fun _ => rfl) (Nat.le_of_ble_eq_true rfl) rfl (fun r89 e89 => ?_)
        exact ag_iret dX7_fewest_92 rfl rfl
      refine ag_aload_0 (q := 71) dX7_fewest_70 rfl ?_
      refine ag_getR (q := 74) dX7_fewest_71 rfl fl7_54 (Nat.lt_of_lt_of_le (by decide : 0 < NC) hN) (congrArg Prod.fst s_0) rfl r_0_6 ?_
      refine ag_iload_4 (q := 76) dX7_fewest_74 rfl ?_
      refine ag_callV_pI (q := 79) (av := [.int _]) (rest := []) dX7_fewest_76 rfl lk7_172 (C_X6_drivesTo hN r60 _) (by decide) (Nat.le_of_ble_eq_true rfl) (Nat.lt_of_lt_of_le (by decide : 80 < NC) hN) (congrArg Prod.fst s_80) (by decide) (fun _ => rfl) (Nat.le_of_ble_eq_true rfl) rfl (fun r76 e76 => ?_)
      refine ag_goto (q := 92) dX7_fewest_79 rfl ?_
      exact ag_iret dX7_fewest_92 rfl rfl
    refine ag_bipush (q := 42) (v := -2) dX7_fewest_40 rfl (by decide) ?_
    exact ag_iret dX7_fewest_42 rfl rfl
  refine ag_iconst (q := 28) (v := -1) dX7_fewest_27 rfl (by decide) ?_
  exact ag_iret dX7_fewest_28 rfl rfl
theorem C_X7_fewest {N : Nat} (hN : NC ≤ N) (a1 : Int32) (a2 : Int32) (a3 : Int32) (σ : Sg) : ∀ r s', J_X7_fewest a1 a2 a3 σ = some (r, s') → AMc yX7_fewest mX7_fewest [.ref 0, .int a1, .int a2, .int a3] N R0 σ (some (.int r), N, R0, s') := fun r s' e => AMc.of (L := [some (.ref 0), some (.int a1), some (.int a2), some (.int a3), none]) (by decide) rfl (fun _ => rfl) (fun _ => Nat.le_of_ble_eq_true rfl) (Nat.le_refl _) (fun K => A_X7_fewest K hN a1 a2 a3 σ _ e (Nat.le_refl _))
