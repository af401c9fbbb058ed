def J_X7_stray (a1 : Int32) (a2 : Int32) (σ : Sg) : Option (Int32 × Sg) :=
  (bd1 (J_X1_hasBeast 1 a1 σ) fun r5 => (if r5 = 0 then (some ((-1 : Int32), σ)) else (if a2 < 0 then (some ((-1 : Int32), σ)) else (if a2 ≤ (6 : Int32) then (bd1 (J_X2_isOff 14 a1 σ) fun r28 => (if r28 = 0 then (bd2 (J_X6_from 14 a1 σ) fun r46 s46 => (bd1 (J_X6_squaresWithin a2 s46) fun r54 => (some (r54, s46)))) else (some ((-2 : Int32), σ)))) else (some ((-1 : Int32), σ))))))
set_option maxHeartbeats 4000000 in
theorem A_X7_stray (K : KT) {N : Nat} (hN : NC ≤ N) (a1 : Int32) (a2 : Int32) (σ : Sg) : AG K mX7_stray N (fun a : Int32 × Sg => (some (.int a.1), N, R0, a.2)) (J_X7_stray a1 a2 σ) 0 [some (.ref 0), some (.int a1), some (.int a2)] [] σ := by
  unfold J_X7_stray
  refine ag_aload_0 (q := 1) dX7_stray_0 rfl ?_
  refine ag_getR (q := 4) dX7_stray_1 rfl fl7_10 (Nat.lt_of_lt_of_le (by decide : 0 < NC) hN) (congrArg Prod.fst s_0) rfl r_0_0 ?_
  refine ag_iload_1 (q := 5) dX7_stray_4 rfl ?_
  refine ag_callV_pI (q := 8) (av := [.int _]) (rest := []) dX7_stray_5 rfl lk7_107 (C_X1_hasBeast hN 1 (by decide) a1 _) (by decide) (Nat.le_of_ble_eq_true rfl) (Nat.lt_of_lt_of_le (by decide : 1 < NC) hN) (congrArg Prod.fst s_1) (by decide) (fun _ => rfl) (Nat.le_of_ble_eq_true rfl) rfl (fun r5 e5 => ?_)
  refine ag_if_eq (tgt := 21) (q := 11) dX7_stray_8 rfl rfl ?_ ?_
  · refine ag_iconst (q := 22) (v := -1) dX7_stray_21 rfl (by decide) ?_
    exact ag_iret dX7_stray_22 rfl rfl
  refine ag_iload_2 (q := 12) dX7_stray_11 rfl ?_
  refine ag_if_lt (tgt := 21) (q := 15) dX7_stray_12 rfl rfl ?_ ?_
  · refine ag_iconst (q := 22) (v := -1) dX7_stray_21 rfl (by decide) ?_
    exact ag_iret dX7_stray_22 rfl rfl
  refine ag_iload_2 (q := 16) dX7_stray_15 rfl ?_
  refine ag_bipush (q := 18) (v := 6) dX7_stray_16 rfl (by decide) ?_
  refine ag_icmp_le (tgt := 23) (q := 21) dX7_stray_18 rfl rfl ?_ ?_
  · refine ag_aload_0 (q := 24) dX7_stray_23 rfl ?_
    refine ag_getR (q := 27) dX7_stray_24 rfl fl7_28 (Nat.lt_of_lt_of_le (by decide : 0 < NC) hN) (congrArg Prod.fst s_0) rfl r_0_2 ?_
    refine ag_iload_1 (q := 28) dX7_stray_27 rfl ?_
    refine ag_callV_pI (q := 31) (av := [.int _]) (rest := []) dX7_stray_28 rfl lk7_125 (C_X2_isOff hN 14 (by decide) a1 _) (by decide) (Nat.le_of_ble_eq_true rfl) (Nat.lt_of_lt_of_le (by decide : 14 < NC) hN) (congrArg Prod.fst s_14) (by decide) (fun _ => rfl) (Nat.le_of_ble_eq_true rfl) rfl (fun r28 e28 => ?_)
    refine ag_if_eq (tgt := 37) (q := 34) dX7_stray_31 rfl rfl ?_ ?_
    · refine ag_aload_0 (q := 38) dX7_stray_37 rfl ?_
      refine ag_getR (q := 41) dX7_stray_38 rfl fl7_54 (Nat.lt_of_lt_of_le (by decide : 0 < NC) hN) (congrArg Prod.fst s_0) rfl r_0_6 ?_
      refine ag_aload_0 (q := 42) dX7_stray_41 rfl ?_
      refine ag_getR (q := 45) dX7_stray_42 rfl fl7_28 (Nat.lt_of_lt_of_le (by decide : 0 < NC) hN) (congrArg Prod.fst s_0) rfl r_0_2 ?_
      refine ag_iload_1 (q := 46) dX7_stray_45 rfl ?_
      refine ag_callV_mU (q := 49) (av := [.ref _, .int _]) (rest := []) dX7_stray_46 rfl lk7_166 (C_X6_from hN 14 (by decide) a1 _) (by decide) (Nat.le_of_ble_eq_true rfl) (Nat.lt_of_lt_of_le (by decide : 80 < NC) hN) (congrArg Prod.fst s_80) (by decide) (fun _ => rfl) (Nat.le_of_ble_eq_true rfl) rfl (fun r46 s46 e46 => ?_)
      refine ag_aload_0 (q := 50) dX7_stray_49 rfl ?_
      refine ag_getR (q := 53) dX7_stray_50 rfl fl7_54 (Nat.lt_of_lt_of_le (by decide : 0 < NC) hN) (congrArg Prod.fst s_0) rfl r_0_6 ?_
      refine ag_iload_2 (q := 54) dX7_stray_53 rfl ?_
      refine ag_callV_pI (q := 57) (av := [.int _]) (rest := []) dX7_stray_54 rfl lk7_178 (C_X6_squaresWithin hN a2 _) (by decide) (Nat.le_of_ble_eq_true rfl) (Nat.lt_of_lt_of_le (by decide : 80 < NC) hN) (congrArg Prod.fst s_80) (by decide) (fun _ => rfl) (Nat.le_of_ble_eq_true rfl) rfl (fun r54 e54 => ?_)
      exact ag_iret dX7_stray_57 rfl rfl
    refine ag_bipush (q := 36) (v := -2) dX7_stray_34 rfl (by decide) ?_
    exact ag_iret dX7_stray_36 rfl rfl
  refine ag_iconst (q := 22) (v := -1) dX7_stray_21 rfl (by decide) ?_
  exact ag_iret dX7_stray_22 rfl rfl
theorem C_X7_stray {N : Nat} (hN : NC ≤ N) (a1 : Int32) (a2 : Int32) (σ : Sg) : ∀ r s', J_X7_stray a1 a2 σ = some (r, s') → AMc yX7_stray mX7_stray [.ref 0, .int a1, .int a2] N R0 σ (some (.int r), N, R0, s') := fun r s' e => AMc.of (L := [some (.ref 0), some (.int a1), some (.int a2)]) (by decide) rfl (fun _ => rfl) (fun _ => Nat.le_of_ble_eq_true rfl) (Nat.le_refl _) (fun K => A_X7_stray K hN a1 a2 σ _ e (Nat.le_refl _))
def J_X7_summer (a1 : Int32) (a2 : Int32) (σ : Sg) : Option (Int32 × Sg) :=
  (bd1 (J_X7_isVillage a1 σ) fun r1 => (if r1 = 0 then (some ((-1 : Int32), σ)) else (if (-1 : Int32) ≤ a2 then (if (σ 1 4) = (-4 : Int32) then (some ((-2 : Int32), σ)) else (bd2 (J_X0_daysToWell 14 a1 σ) fun r38 s38 => (if r38 = (-4 : Int32) then (some (r38, s38)) else (if a2 = (-1 : Int32) then (some (r38, s38)) else (bd1 (J_X0_onOwnDay a2 s38) fun r62 => (some (r62, s38))))))) else (some ((-1 : Int32), σ)))))
set_option maxHeartbeats 4000000 in
theorem A_X7_summer (K : KT) {N : Nat} (hN : NC ≤ N) (a1 : Int32) (a2 : Int32) (σ : Sg) : AG K mX7_summer N (fun a : Int32 × Sg => (some (.int a.1), N, R0, a.2)) (J_X7_summer a1 a2 σ) 0 [some (.ref 0), some (.int a1), some (.int a2), none] [] σ := by
  unfold J_X7_summer
  refine ag_iload_1 (q := 1) dX7_summer_0 rfl ?_
  refine ag_callS_pI (q := 4) (av := [.int _]) (rest := []) dX7_summer_1 rfl lk7_181 (C_X7_isVillage hN a1 _) (by decide) (Nat.le_of_ble_eq_true rfl) (fun _ => rfl) (Nat.le_of_ble_eq_true rfl) rfl (fun r1 e1 => ?_)
  refine ag_if_eq (tgt := 12) (q := 7) dX7_summer_4 rfl rfl ?_ ?_
  · refine ag_iconst (q := 13) (v := -1) dX7_summer_12 rfl (by decide) ?_
    exact ag_iret dX7_summer_13 rfl rfl
  refine ag_iload_2 (q := 8) dX7_summer_7 rfl ?_
  refine ag_iconst (q := 9) (v := -1) dX7_summer_8 rfl (by decide) ?_
  refine ag_icmp_ge (tgt := 14) (q := 12) dX7_summer_9 rfl rfl ?_ ?_
  · refine ag_aload_0 (q := 15) dX7_summer_14 rfl ?_
    refine ag_getR (q := 18) dX7_summer_15 rfl fl7_10 (Nat.lt_of_lt_of_le (by decide : 0 < NC) hN) (congrArg Prod.fst s_0) rfl r_0_0 ?_
    refine ag_getI (q := 21) dX7_summer_18 rfl fl7_184 (Nat.lt_of_lt_of_le (by decide : 1 < NC) hN) (congrArg Prod.fst s_1) rfl ?_
    refine ag_bipush (q := 23) (v := -4) dX7_summer_21 rfl (by decide) ?_
    refine ag_icmp_ne (tgt := 29) (q := 26) dX7_summer_23 rfl rfl ?_ ?_
    · refine ag_aload_0 (q := 30) dX7_summer_29 rfl ?_
      refine ag_getR (q := 33) dX7_summer_30 rfl fl7_61 (Nat.lt_of_lt_of_le (by decide : 0 < NC) hN) (congrArg Prod.fst s_0) rfl r_0_7 ?_
      refine ag_aload_0 (q := 34) dX7_summer_33 rfl ?_
      refine ag_getR (q := 37) dX7_summer_34 rfl fl7_28 (Nat.lt_of_lt_of_le (by decide : 0 < NC) hN) (congrArg Prod.fst s_0) rfl r_0_2 ?_
      refine ag_iload_1 (q := 38) dX7_summer_37 rfl ?_
      refine ag_callV_mI (q := 41) (av := [.ref _, .int _]) (rest := []) dX7_summer_38 rfl lk7_187 (C_X0_daysToWell hN 14 (by decide) a1 _) (by decide) (Nat.le_of_ble_eq_true rfl) (Nat.lt_of_lt_of_le (by decide : 92 < NC) hN) (congrArg Prod.fst s_92) (by decide) (fun _ => rfl) (Nat.le_of_ble_eq_true rfl) rfl (fun r38 s38 e38 => ?_)
      refine ag_istore_3 (q := 42) dX7_summer_41 rfl (Nat.le_of_ble_eq_true rfl) rfl ?_
      refine ag_iload_3 (q := 43) dX7_summer_42 rfl ?_
      refine ag_bipush (q := 45) (v := -4) dX7_summer_43 rfl (by decide) ?_
      refine ag_icmp_eq (tgt := 53) (q := 48) dX7_summer_45 rfl rfl ?_ ?_
      · refine ag_iload_3 (q := 54) dX7_summer_53 rfl ?_
        refine ag_goto (q := 65) dX7_summer_54 rfl ?_
        exact ag_iret dX7_summer_65 rfl rfl
      refine ag_iload_2 (q := 49) dX7_summer_48 rfl ?_
      refine ag_iconst (q := 50) (v := -1) dX7_summer_49 rfl (by decide) ?_
      refine ag_icmp_ne (tgt := 57) (q := 53) dX7_summer_50 rfl rfl ?_ ?_
      · refine ag_aload_0 (q := 58) dX7_summer_57 rfl ?_
        refine ag_getR (q := 61) dX7_summer_58 rfl fl7_61 (Nat.lt_of_lt_of_le (by decide : 0 < NC) hN) (congrArg Prod.fst s_0) rfl r_0_7 ?_
        refine ag_iload_2 (q := 62) dX7_summer_61 rfl ?_
        refine ag_callV_pI (q := 65) (av := [.int _]) (rest := []) dX7_summer_62 rfl lk7_191 (C_X0_onOwnDay hN a2 _) (by decide) (Nat.le_of_ble_eq_true rfl) (Nat.lt_of_lt_of_le (by decide : 92 < NC) hN) (congrArg Prod.fst s_92) (by decide) (fun _ => rfl) (Nat.le_of_ble_eq_true rfl) rfl (fun r62 e62 => ?_)
        exact ag_iret dX7_summer_65 rfl rfl
      refine ag_iload_3 (q := 54) dX7_summer_53 rfl ?_
      refine ag_goto (q := 65) dX7_summer_54 rfl ?_
      exact ag_iret dX7_summer_65 rfl rfl
    refine ag_bipush (q := 28) (v := -2) dX7_summer_26 rfl (by decide) ?_
    exact ag_iret dX7_summer_28 rfl rfl
  refine ag_iconst (q := 13) (v := -1) dX7_summer_12 rfl (by decide) ?_
  exact ag_iret dX7_summer_13 rfl rfl
theorem C_X7_summer {N : Nat} (hN : NC ≤ N) (a1 : Int32) (a2 : Int32) (σ : Sg) : ∀ r s', J_X7_summer a1 a2 σ = some (r, s') → AMc yX7_summer mX7_summer [.ref 0, .int a1, .int a2] N R0 σ (some (.int r), N, R0, s') := fun r s' e => AMc.of (L := [some (.ref 0), some (.int a1), some (.int a2), none]) (by decide) rfl (fun _ => rfl) (fun _ => Nat.le_of_ble_eq_true rfl) (Nat.le_refl _) (fun K => A_X7_summer K hN a1 a2 σ _ e (Nat.le_refl _))
def J_X7_game (a1 : Int32) (a2 : Int32) (σ : Sg) : Option (Int32 × Sg) :=
  (if a1 < (1 : Int32) then (some ((-1 : Int32), σ)) else (if (3 : Int32) < a1 then (some ((-1 : Int32), σ)) else (if a2 < 0 then (some ((-1 : Int32), σ)) else (if a2 ≤ (1 : Int32) then (bd1 (J_X2_lost 14 σ) fun r25 => (if r25 = 0 then (bd2 (J_X0_worthBehind 14 a1 σ) fun r43 s43 => (if a2 = 0 then (some ((r43 + (100 : Int32)), s43)) else (some ((s43 92 4), s43)))) else (some ((-2 : Int32), σ)))) else (some ((-1 : Int32), σ))))))
set_option maxHeartbeats 4000000 in
theorem A_X7_game (K : KT) {N : Nat} (hN : NC ≤ N) (a1 : Int32) (a2 : Int32) (σ : Sg) : AG K mX7_game N (fun a : Int32 × Sg => (some (.int a.1), N, R0, a.2)) (J_X7_game a1 a2 σ) 0 [some (.ref 0), some (.int a1), some (.int a2), none] [] σ := by
  unfold J_X7_game
  refine ag_iload_1 (q := 1) dX7_game_0 rfl ?_
  refine ag_iconst (q := 2) (v := 1) dX7_game_1 rfl (by decide) ?_
  refine ag_icmp_lt (tgt := 19) (q := 5) dX7_game_2 rfl rfl ?_ ?_
  · refine ag_iconst (q := 20) (v := -1) dX7_game_19 rfl (by decide) ?_
    exact ag_iret dX7_game_20 rfl rfl
  refine ag_iload_1 (q := 6) dX7_game_5 rfl ?_
  refine ag_iconst (q := 7) (v := 3) dX7_game_6 rfl (by decide) ?_
  refine ag_icmp_gt (tgt := 19) (q := 10) dX7_game_7 rfl rfl ?_ ?_
  · refine ag_iconst (q := 20) (v := -1) dX7_game_19 rfl (by decide) ?_
    exact ag_iret dX7_game_20 rfl rfl
  refine ag_iload_2 (q := 11) dX7_game_10 rfl ?_
  refine ag_if_lt (tgt := 19) (q := 14) dX7_game_11 rfl rfl ?_ ?_
  · refine ag_iconst (q := 20) (v := -1) dX7_game_19 rfl (by decide) ?_
    exact ag_iret dX7_game_20 rfl rfl
  refine ag_iload_2 (q := 15) dX7_game_14 rfl ?_
  refine ag_iconst (q := 16) (v := 1) dX7_game_15 rfl (by decide) ?_
  refine ag_icmp_le (tgt := 21) (q := 19) dX7_game_16 rfl rfl ?_ ?_
  · refine ag_aload_0 (q := 22) dX7_game_21 rfl ?_
    refine ag_getR (q := 25) dX7_game_22 rfl fl7_28 (Nat.lt_of_lt_of_le (by decide : 0 < NC) hN) (congrArg Prod.fst s_0) rfl r_0_2 ?_
    refine ag_callV_pI (q := 28) (av := []) (rest := []) dX7_game_25 rfl lk7_139 (C_X2_lost hN 14 (by decide) _) (by decide) (Nat.le_of_ble_eq_true rfl) (Nat.lt_of_lt_of_le (by decide : 14 < NC) hN) (congrArg Prod.fst s_14) (by decide) (fun _ => rfl) (Nat.le_of_ble_eq_true rfl) rfl (fun r25 e25 => ?_)
    refine ag_if_eq (tgt := 34) (q := 31) dX7_game_28 rfl rfl ?_ ?_
    · refine ag_aload_0 (q := 35) dX7_game_34 rfl ?_
      refine ag_getR (q := 38) dX7_game_35 rfl fl7_61 (Nat.lt_of_lt_of_le (by decide : 0 < NC) hN) (congrArg Prod.fst s_0) rfl r_0_7 ?_
      refine ag_aload_0 (q := 39) dX7_game_38 rfl ?_
      refine ag_getR (q := 42) dX7_game_39 rfl fl7_28 (Nat.lt_of_lt_of_le (by decide : 0 < NC) hN) (congrArg Prod.fst s_0) rfl r_0_2 ?_
      refine ag_iload_1 (q := 43) dX7_game_42 rfl ?_
      refine ag_callV_mI (q := 46) (av := [.ref _, .int _]) (rest := []) dX7_game_43 rfl lk7_194 (C_X0_worthBehind hN 14 (by decide) a1 _) (by decide) (Nat.le_of_ble_eq_true rfl) (Nat.lt_of_lt_of_le (by decide : 92 < NC) hN) (congrArg Prod.fst s_92) (by decide) (fun _ => rfl) (Nat.le_of_ble_eq_true rfl) rfl (fun r43 s43 e43 => ?_)
      refine ag_istore_3 (q := 47) dX7_game_46 rfl (Nat.le_of_ble_eq_true rfl) rfl ?_
      refine ag_iload_2 (q := 48) dX7_game_47 rfl ?_
      refine ag_if_ne (tgt := 58) (q := 51) dX7_game_48 rfl rfl ?_ ?_
      · refine ag_aload_0 (q := 59) dX7_game_58 rfl ?_
        refine ag_getR (q := 62) dX7_game_59 rfl fl7_61 (Nat.lt_of_lt_of_le (by decide : 0 < NC) hN) (congrArg Prod.fst s_0) rfl r_0_7 ?_
        refine ag_getI (q := 65) dX7_game_62 rfl fl7_197 (Nat.lt_of_lt_of_le (by decide : 92 < NC) hN) (congrArg Prod.fst s_92) rfl ?_
        exact ag_iret dX7_game_65 rfl rfl
      refine ag_iload_3 (q := 52) dX7_game_51 rfl ?_
      refine ag_bipush (q := 54) (v := 100) dX7_game_52 rfl (by decide) ?_
      refine ag_iadd (q := 55) dX7_game_54 rfl ?_
      refine ag_goto (q := 65) dX7_game_55 rfl ?_
      exact ag_iret dX7_game_65 rfl rfl
    refine ag_bipush (q := 33) (v := -2) dX7_game_31 rfl (by decide) ?_
    exact ag_iret dX7_game_33 rfl rfl
  refine ag_iconst (q := 20) (v := -1) dX7_game_19 rfl (by decide) ?_
  exact ag_iret dX7_game_20 rfl rfl
theorem C_X7_game {N : Nat} (hN : NC ≤ N) (a1 : Int32) (a2 : Int32) (σ : Sg) : ∀ r s', J_X7_game a1 a2 σ = some (r, s') → AMc yX7_game mX7_game [.ref 0, .int a1, .int a2] N R0 σ (some (.int r), N, R0, s') := fun r s' e => AMc.of (L := [some (.ref 0), some (.int a1), some (.int a2), none]) (by decide) rfl (fun _ => rfl) (fun _ => Nat.le_of_ble_eq_true rfl) (Nat.le_refl _) (fun K => A_X7_game K hN a1 a2 σ _ e (Nat.le_refl _))
def J_X7_again_b42  : Nat → Int32 → Int32 → Sg → Option (Int32 × Sg)
  | 0, _, _, _ => none
  | k + 1, x1, x2, σ =>
    (if (60 : Int32) < x2 then (some ((-4 : Int32), σ)) else (bd1 (J_X2_grassOn 19 x1 σ) fun r53 => (if r53 ≤ 0 then (bd2 (J_X2_passDay 19 σ) fun r65 s65 => (J_X7_again_b42   k x1 (x2 + (1)) s65)) else (some (x2, σ)))))
set_option maxHeartbeats 4000000 in
theorem A_X7_again_b42 (K : KT) {N : Nat} (hN : NC ≤ N)  : ∀ (k : Nat) (x1 : Int32) (x2 : Int32) (σ : Sg), AG K mX7_again N (fun a : Int32 × Sg => (some (.int a.1), N, R0, a.2)) (J_X7_again_b42   k x1 x2 σ) 42 [some (.ref 0), some (.int x1), some (.int x2)] [] σ := by
  intro k
  induction k with
  | zero => intro x1 x2 σ; exact ag_none
  | succ k ih =>
    intro x1 x2 σ
    rw [J_X7_again_b42]
    refine ag_iload_2 (q := 43) dX7_again_42 rfl ?_
    refine ag_bipush (q := 45) (v := 60) dX7_again_43 rfl (by decide) ?_
    refine ag_icmp_gt (tgt := 74) (q := 48) dX7_again_45 rfl rfl ?_ ?_
    · refine ag_bipush (q := 76) (v := -4) dX7_again_74 rfl (by decide) ?_
      exact ag_iret dX7_again_76 rfl rfl
    refine ag_aload_0 (q := 49) dX7_again_48 rfl ?_
    refine ag_getR (q := 52) dX7_again_49 rfl fl7_32 (Nat.lt_of_lt_of_le (by decide : 0 < NC) hN) (congrArg Prod.fst s_0) rfl r_0_3 ?_
    refine ag_iload_1 (q := 53) dX7_again_52 rfl ?_
    refine ag_callV_pI (q := 56) (av := [.int _]) (rest := []) dX7_again_53 rfl lk7_100 (C_X2_grassOn hN 19 (by decide) x1 _) (by decide) (Nat.le_of_ble_eq_true rfl) (Nat.lt_of_lt_of_le (by decide : 19 < NC) hN) (congrArg Prod.fst s_19) (by decide) (fun _ => rfl) (Nat.le_of_ble_eq_true rfl) rfl (fun r53 e53 => ?_)
    refine ag_if_le (tgt := 61) (q := 59) dX7_again_56 rfl rfl ?_ ?_
    · refine ag_aload_0 (q := 62) dX7_again_61 rfl ?_
      refine ag_getR (q := 65) dX7_again_62 rfl fl7_32 (Nat.lt_of_lt_of_le (by decide : 0 < NC) hN) (congrArg Prod.fst s_0) rfl r_0_3 ?_
      refine ag_callV_mU (q := 68) (av := []) (rest := []) dX7_again_65 rfl lk7_149 (C_X2_passDay hN 19 (by decide) _) (by decide) (Nat.le_of_ble_eq_true rfl) (Nat.lt_of_lt_of_le (by decide : 19 < NC) hN) (congrArg Prod.fst s_19) (by decide) (fun _ => rfl) (Nat.le_of_ble_eq_true rfl) rfl (fun r65 s65 e65 => ?_)
      refine ag_iinc_2 (q := 71) (d := (1)) dX7_again_68 rfl (Nat.le_of_ble_eq_true rfl) rfl (by decide) ?_
      refine ag_goto (q := 42) dX7_again_71 rfl ?_
      exact ih x1 (x2 + (1)) s65
    refine ag_iload_2 (q := 60) dX7_again_59 rfl ?_
    exact ag_iret dX7_again_60 rfl rfl
def J_X7_again (a1 : Int32) (σ : Sg) : Option (Int32 × Sg) :=
  (bd1 (J_X1_hasSquare 1 a1 σ) fun r5 => (if r5 = 0 then (some ((-1 : Int32), σ)) else (bd1 (J_X2_grassOn 14 a1 σ) fun r18 => (if r18 = (9 : Int32) then (some ((-2 : Int32), σ)) else (bd2 (J_X2_copyFrom 19 14 σ) fun r37 s37 => (J_X7_again_b42   FU a1 (0 : Int32) s37))))))
set_option maxHeartbeats 4000000 in
theorem A_X7_again (K : KT) {N : Nat} (hN : NC ≤ N) (a1 : Int32) (σ : Sg) : AG K mX7_again N (fun a : Int32 × Sg => (some (.int a.1), N, R0, a.2)) (J_X7_again a1 σ) 0 [some (.ref 0), some (.int a1), none] [] σ := by
  unfold J_X7_again
  refine ag_aload_0 (q := 1) dX7_again_0 rfl ?_
  refine ag_getR (q := 4) dX7_again_1 rfl fl7_10 (Nat.lt_of_lt_of_le (by decide : 0 < NC) hN) (congrArg Prod.fst s_0) rfl r_0_0 ?_
  refine ag_iload_1 (q := 5) dX7_again_4 rfl ?_
  refine ag_callV_pI (q := 8) (av := [.int _]) (rest := []) dX7_again_5 rfl lk7_97 (C_X1_hasSquare hN 1 (by decide) a1 _) (by decide) (Nat.le_of_ble_eq_true rfl) (Nat.lt_of_lt_of_le (by decide : 1 < NC) hN) (congrArg Prod.fst s_1) (by decide) (fun _ => rfl) (Nat.le_of_ble_eq_true rfl) rfl (fun r5 e5 => ?_)
  refine ag_if_ne (tgt := 13) (q := 11) dX7_again_8 rfl rfl ?_ ?_
  · refine ag_aload_0 (q := 14) dX7_again_13 rfl ?_
    refine ag_getR (q := 17) dX7_again_14 rfl fl7_28 (Nat.lt_of_lt_of_le (by decide : 0 < NC) hN) (congrArg Prod.fst s_0) rfl r_0_2 ?_
    refine ag_iload_1 (q := 18) dX7_again_17 rfl ?_
    refine ag_callV_pI (q := 21) (av := [.int _]) (rest := []) dX7_again_18 rfl lk7_100 (C_X2_grassOn hN 14 (by decide) a1 _) (by decide) (Nat.le_of_ble_eq_true rfl) (Nat.lt_of_lt_of_le (by decide : 14 < NC) hN) (congrArg Prod.fst s_14) (by decide) (fun _ => rfl) (Nat.le_of_ble_eq_true rfl) rfl (fun r18 e18 => ?_)
    refine ag_bipush (q := 23) (v := 9) dX7_again_21 rfl (by decide) ?_
    refine ag_icmp_ne (tgt := 29) (q := 26) dX7_again_23 rfl rfl ?_ ?_
    · refine ag_aload_0 (q := 30) dX7_again_29 rfl ?_
      refine ag_getR (q := 33) dX7_again_30 rfl fl7_32 (Nat.lt_of_lt_of_le (by decide : 0 < NC) hN) (congrArg Prod.fst s_0) rfl r_0_3 ?_
      refine ag_aload_0 (q := 34) dX7_again_33 rfl ?_
      refine ag_getR (q := 37) dX7_again_34 rfl fl7_28 (Nat.lt_of_lt_of_le (by decide : 0 < NC) hN) (congrArg Prod.fst s_0) rfl r_0_2 ?_
      refine ag_callV_mU (q := 40) (av := [.ref _]) (rest := []) dX7_again_37 rfl lk7_162 (C_X2_copyFrom hN 19 (by decide) 14 (by decide) _) (by decide) (Nat.le_of_ble_eq_true rfl) (Nat.lt_of_lt_of_le (by decide : 19 < NC) hN) (congrArg Prod.fst s_19) (by decide) (fun _ => rfl) (Nat.le_of_ble_eq_true rfl) rfl (fun r37 s37 e37 => ?_)
      refine ag_iconst (q := 41) (v := 0) dX7_again_40 rfl (by decide) ?_
      refine ag_istore_2 (q := 42) dX7_again_41 rfl (Nat.le_of_ble_eq_true rfl) rfl ?_
      exact A_X7_again_b42 K hN   FU a1 (0 : Int32) s37
    refine ag_bipush (q := 28) (v := -2) dX7_again_26 rfl (by decide) ?_
    exact ag_iret dX7_again_28 rfl rfl
  refine ag_iconst (q := 12) (v := -1) dX7_again_11 rfl (by decide) ?_
  exact ag_iret dX7_again_12 rfl rfl
theorem C_X7_again {N : Nat} (hN : NC ≤ N) (a1 : Int32) (σ : Sg) : ∀ r s', J_X7_again a1 σ = some (r, s') → AMc yX7_again mX7_again [.ref 0, .int a1] N R0 σ (some (.int r), N, R0, s') := fun r s' e => AMc.of (L := [some (.ref 0), some (.int a1), none]) (by decide) rfl (fun _ => rfl) (fun _ => Nat.le_of_ble_eq_true rfl) (Nat.le_refl _) (fun K => A_X7_again K hN a1 σ _ e (Nat.le_refl _))
def J_X7_starves_b40  : Nat → Int32 → Int32 → Sg → Option (Int32 × Sg)
  | 0, _, _, _ => none
  | k + 1, x1, x2, σ =>
    (if (60 : Int32) < x2 then (some ((-4 : Int32), σ)) else (bd2 (J_X2_passDay 19 σ) fun r50 s50 => (bd1 (J_X2_isOff 19 x1 s50) fun r58 => (if r58 = 0 then (J_X7_starves_b40   k x1 (x2 + (1)) s50) else (some (x2, s50))))))
set_option maxHeartbeats 4000000 in
theorem A_X7_starves_b40 (K : KT) {N : Nat} (hN : NC ≤ N)  : ∀ (k : Nat) (x1 : Int32) (x2 : Int32) (σ : Sg), AG K mX7_starves N (fun a : Int32 × Sg => (some (.int a.1), N, R0, a.2)) (J_X7_starves_b40   k x1 x2 σ) 40 [some (.ref 0), some (.int x1), some (.int x2)] [] σ := by
  intro k
  induction k with
  | zero => intro x1 x2 σ; exact ag_none
  | succ k ih =>
    intro x1 x2 σ
    rw [J_X7_starves_b40]
    refine ag_iload_2 (q := 41) dX7_starves_40 rfl ?_
    refine ag_bipush (q := 43) (v := 60) dX7_starves_41 rfl (by decide) ?_
    refine ag_icmp_gt (tgt := 72) (q := 46) dX7_starves_43 rfl rfl ?_ ?_
    · refine ag_bipush (q := 74) (v := -4) dX7_starves_72 rfl (by decide) ?_
      exact ag_iret dX7_starves_74 rfl rfl
    refine ag_aload_0 (q := 47) dX7_starves_46 rfl ?_
    refine ag_getR (q := 50) dX7_starves_47 rfl fl7_32 (Nat.lt_of_lt_of_le (by decide : 0 < NC) hN) (congrArg Prod.fst s_0) rfl r_0_3 ?_
    refine ag_callV_mU (q := 53) (av := []) (rest := []) dX7_starves_50 rfl lk7_149 (C_X2_passDay hN 19 (by decide) _) (by decide) (Nat.le_of_ble_eq_true rfl) (Nat.lt_of_lt_of_le (by decide : 19 < NC) hN) (congrArg Prod.fst s_19) (by decide) (fun _ => rfl) (Nat.le_of_ble_eq_true rfl) rfl (fun r50 s50 e50 => ?_)
    refine ag_aload_0 (q := 54) dX7_starves_53 rfl ?_
    refine ag_getR (q := 57) dX7_starves_54 rfl fl7_32 (Nat.lt_of_lt_of_le (by decide : 0 < NC) hN) (congrArg Prod.fst s_0) rfl r_0_3 ?_
    refine ag_iload_1 (q := 58) dX7_starves_57 rfl ?_
    refine ag_callV_pI (q := 61) (av := [.int _]) (rest := []) dX7_starves_58 rfl lk7_125 (C_X2_isOff hN 19 (by decide) x1 _) (by decide) (Nat.le_of_ble_eq_true rfl) (Nat.lt_of_lt_of_le (by decide : 19 < NC) hN) (congrArg Prod.fst s_19) (by decide) (fun _ => rfl) (Nat.le_of_ble_eq_true rfl) rfl (fun r58 e58 => ?_)
    refine ag_if_eq (tgt := 66) (q := 64) dX7_starves_61 rfl rfl ?_ ?_
    · refine ag_iinc_2 (q := 69) (d := (1)) dX7_starves_66 rfl (Nat.le_of_ble_eq_true rfl) rfl (by decide) ?_
      refine ag_goto (q := 40) dX7_starves_69 rfl ?_
      exact ih x1 (x2 + (1)) s50
    refine ag_iload_2 (q := 65) dX7_starves_64 rfl ?_
    exact ag_iret dX7_starves_65 rfl rfl
def J_X7_starves (a1 : Int32) (σ : Sg) : Option (Int32 × Sg) :=
  (bd1 (J_X1_hasBeast 1 a1 σ) fun r5 => (if r5 = 0 then (some ((-1 : Int32), σ)) else (bd1 (J_X2_isOff 14 a1 σ) fun r18 => (if r18 = 0 then (bd2 (J_X2_copyFrom 19 14 σ) fun r35 s35 => (J_X7_starves_b40   FU a1 (1 : Int32) s35)) else (some ((-2 : Int32), σ))))))
set_option maxHeartbeats 4000000 in
theorem A_X7_starves (K : KT) {N : Nat} (hN : NC ≤ N) (a1 : Int32) (σ : Sg) : AG K mX7_starves N (fun a : Int32 × Sg => (some (.int a.1), N, R0, a.2)) (J_X7_starves a1 σ) 0 [some (.ref 0), some (.int a1), none] [] σ := by
  unfold J_X7_starves
  refine ag_aload_0 (q := 1) dX7_starves_0 rfl ?_
  refine ag_getR (q := 4) dX7_starves_1 rfl fl7_10 (Nat.lt_of_lt_of_le (by decide : 0 < NC) hN) (congrArg Prod.fst s_0) rfl r_0_0 ?_
  refine ag_iload_1 (q := 5) dX7_starves_4 rfl ?_
  refine ag_callV_pI (q := 8) (av := [.int _]) (rest := []) dX7_starves_5 rfl lk7_107 (C_X1_hasBeast hN 1 (by decide) a1 _) (by decide) (Nat.le_of_ble_eq_true rfl) (Nat.lt_of_lt_of_le (by decide : 1 < NC) hN) (congrArg Prod.fst s_1) (by decide) (fun _ => rfl) (Nat.le_of_ble_eq_true rfl) rfl (fun r5 e5 => ?_)
  refine ag_if_ne (tgt := 13) (q := 11) dX7_starves_8 rfl rfl ?_ ?_
  · refine ag_aload_0 (q := 14) dX7_starves_13 rfl ?_
    refine ag_getR (q := 17) dX7_starves_14 rfl fl7_28 (Nat.lt_of_lt_of_le (by decide : 0 < NC) hN) (congrArg Prod.fst s_0) rfl r_0_2 ?_
    refine ag_iload_1 (q := 18) dX7_starves_17 rfl ?_
    refine ag_callV_pI (q := 21) (av := [.int _]) (rest := []) dX7_starves_18 rfl lk7_125 (C_X2_isOff hN 14 (by decide) a1 _) (by decide) (Nat.le_of_ble_eq_true rfl) (Nat.lt_of_lt_of_le (by decide : 14 < NC) hN) (congrArg Prod.fst s_14) (by decide) (fun _ => rfl) (Nat.le_of_ble_eq_true rfl) rfl (fun r18 e18 => ?_)
    refine ag_if_eq (tgt := 27) (q := 24) dX7_starves_21 rfl rfl ?_ ?_
    · refine ag_aload_0 (q := 28) dX7_starves_27 rfl ?_
      refine ag_getR (q := 31) dX7_starves_28 rfl fl7_32 (Nat.lt_of_lt_of_le (by decide : 0 < NC) hN) (congrArg Prod.fst s_0) rfl r_0_3 ?_
      refine ag_aload_0 (q := 32) dX7_starves_31 rfl ?_
      refine ag_getR (q := 35) dX7_starves_32 rfl fl7_28 (Nat.lt_of_lt_of_le (by decide : 0 < NC) hN) (congrArg Prod.fst s_0) rfl r_0_2 ?_
      refine ag_callV_mU (q := 38) (av := [.ref _]) (rest := []) dX7_starves_35 rfl lk7_162 (C_X2_copyFrom hN 19 (by decide) 14 (by decide) _) (by decide) (Nat.le_of_ble_eq_true rfl) (Nat.lt_of_lt_of_le (by decide : 19 < NC) hN) (congrArg Prod.fst s_19) (by decide) (fun _ => rfl) (Nat.le_of_ble_eq_true rfl) rfl (fun r35 s35 e35 => ?_)
      refine ag_iconst (q := 39) (v := 1) dX7_starves_38 rfl (by decide) ?_
      refine ag_istore_2 (q := 40) dX7_starves_39 rfl (Nat.le_of_ble_eq_true rfl) rfl ?_
      exact A_X7_starves_b40 K hN   FU a1 (1 : Int32) s35
    refine ag_bipush (q := 26) (v := -2) dX7_starves_24 rfl (by decide) ?_
    exact ag_iret dX7_starves_26 rfl rfl
  refine ag_iconst (q := 12) (v := -1) dX7_starves_11 rfl (by decide) ?_
  exact ag_iret dX7_starves_12 rfl rfl
theorem C_X7_starves {N : Nat} (hN : NC ≤ N) (a1 : Int32) (σ : Sg) : ∀ r s', J_X7_starves a1 σ = some (r, s') → AMc yX7_starves mX7_starves [.ref 0, .int a1] N R0 σ (some (.int r), N, R0, s') := fun r s' e => AMc.of (L := [some (.ref 0), some (.int a1), none]) (by decide) rfl (fun _ => rfl) (fun _ => Nat.le_of_ble_eq_true rfl) (Nat.le_refl _) (fun K => A_X7_starves K hN a1 σ _ e (Nat.le_refl _))
def J_X7_otherwise_b58  (y43 : Int32 → Int32 → Int32 → Int32 → Int32 → Int32 → Sg → Option (Int32 × Sg)) : Nat → Int32 → Int32 → Int32 → Int32 → Int32 → Int32 → Int32 → Sg → Option (Int32 × Sg)
  | 0, _, _, _, _, _, _, _, _ => none
  | k + 1, x1, x2, x3, x4, x5, x6, x7, σ =>
    (if (99 : Int32) < x7 then (y43 x1 x2 x3 x4 x5 (x6 + (1)) σ) else (bd2 (J_X3_otherwiseIs x6 x7 19 σ) fun r77 s77 => (if r77 = 0 then (J_X7_otherwise_b58  y43 k x1 x2 x3 x4 x5 x6 (x7 + (1)) s77) else (bd1 (J_X2_placeOf 19 x1 s77) fun r88 => (if r88 = x2 then (if x5 = (-4 : Int32) then (J_X7_otherwise_b58  y43 k x1 x2 x3 (x4 + (1)) (((100 : Int32) * x6) + x7) x6 (x7 + (1)) s77) else (J_X7_otherwise_b58  y43 k x1 x2 x3 (x4 + (1)) x5 x6 (x7 + (1)) s77)) else (J_X7_otherwise_b58  y43 k x1 x2 x3 x4 x5 x6 (x7 + (1)) s77))))))
set_option maxHeartbeats 4000000 in
theorem A_X7_otherwise_b58 (K : KT) {N : Nat} (hN : NC ≤ N)  (y43 : Int32 → Int32 → Int32 → Int32 → Int32 → Int32 → Sg → Option (Int32 × Sg)) (hy43 : ∀ (x1 : Int32) (x2 : Int32) (x3 : Int32) (x4 : Int32) (x5 : Int32) (x6 : Int32) (σ : Sg), AG K mX7_otherwise N (fun a : Int32 × Sg => (some (.int a.1), N, R0, a.2)) (y43 x1 x2 x3 x4 x5 x6 σ) 43 [some (.ref 0), some (.int x1), some (.int x2), some (.int x3), some (.int x4), some (.int x5), some (.int x6), none] [] σ) : ∀ (k : Nat) (x1 : Int32) (x2 : Int32) (x3 : Int32) (x4 : Int32) (x5 : Int32) (x6 : Int32) (x7 : Int32) (σ : Sg), AG K mX7_otherwise N (fun a : Int32 × Sg => (some (.int a.1), N, R0, a.2)) (J_X7_otherwise_b58  y43 k x1 x2 x3 x4 x5 x6 x7 σ) 58 [some (.ref 0), some (.int x1), some (.int x2), some (.int x3), some (.int x4), some (.int x5), some (.int x6), some (.int x7)] [] σ := by
  intro k
  induction k with
  | zero => intro x1 x2 x3 x4 x5 x6 x7 σ; exact ag_none
  | succ k ih =>
    intro x1 x2 x3 x4 x5 x6 x7 σ
    rw [J_X7_otherwise_b58]
    refine ag_iload_7 (q := 60) dX7_otherwise_58 rfl ?_
    refine ag_bipush (q := 62) (v := 99) dX7_otherwise_60 rfl (by decide) ?_
    refine ag_icmp_gt (tgt := 126) (q := 65) dX7_otherwise_62 rfl rfl ?_ ?_
    · refine ag_iinc_6 (q := 129) (d := (1)) dX7_otherwise_126 rfl (Nat.le_of_ble_eq_true rfl) rfl (by decide) ?_
      refine ag_goto (q := 43) dX7_otherwise_129 rfl ?_
      refine ag_kill_7 ?_
      exact hy43 x1 x2 x3 x4 x5 (x6 + (1)) σ
    refine ag_aload_0 (q := 66) dX7_otherwise_65 rfl ?_
    refine ag_getR (q := 69) dX7_otherwise_66 rfl fl7_38 (Nat.lt_of_lt_of_le (by decide : 0 < NC) hN) (congrArg Prod.fst s_0) rfl r_0_4 ?_
    refine ag_iload_6 (q := 71) dX7_otherwise_69 rfl ?_
    refine ag_iload_7 (q := 73) dX7_otherwise_71 rfl ?_
    refine ag_aload_0 (q := 74) dX7_otherwise_73 rfl ?_
    refine ag_getR (q := 77) dX7_otherwise_74 rfl fl7_32 (Nat.lt_of_lt_of_le (by decide : 0 < NC) hN) (congrArg Prod.fst s_0) rfl r_0_3 ?_
    refine ag_callV_mI (q := 80) (av := [.int _, .int _, .ref _]) (rest := []) dX7_otherwise_77 rfl lk7_200 (C_X3_otherwiseIs hN x6 x7 19 (by decide) _) (by decide) (Nat.le_of_ble_eq_true rfl) (Nat.lt_of_lt_of_le (by decide : 24 < NC) hN) (congrArg Prod.fst s_24) (by decide) (fun _ => rfl) (Nat.le_of_ble_eq_true rfl) rfl (fun r77 s77 e77 => ?_)
    refine ag_if_eq (tgt := 120) (q := 83) dX7_otherwise_80 rfl rfl ?_ ?_
    · refine ag_iinc_7 (q := 123) (d := (1)) dX7_otherwise_120 rfl (Nat.le_of_ble_eq_true rfl) rfl (by decide) ?_
      refine ag_goto (q := 58) dX7_otherwise_123 rfl ?_
      exact ih x1 x2 x3 x4 x5 x6 (x7 + (1)) s77
    refine ag_aload_0 (q := 84) dX7_otherwise_83 rfl ?_
    refine ag_getR (q := 87) dX7_otherwise_84 rfl fl7_32 (Nat.lt_of_lt_of_le (by decide : 0 < NC) hN) (congrArg Prod.fst s_0) rfl r_0_3 ?_
    refine ag_iload_1 (q := 88) dX7_otherwise_87 rfl ?_
    refine ag_callV_pI (q := 91) (av := [.int _]) (rest := []) dX7_otherwise_88 rfl lk7_116 (C_X2_placeOf hN 19 (by decide) x1 _) (by decide) (Nat.le_of_ble_eq_true rfl) (Nat.lt_of_lt_of_le (by decide : 19 < NC) hN) (congrArg Prod.fst s_19) (by decide) (fun _ => rfl) (Nat.le_of_ble_eq_true rfl) rfl (fun r88 e88 => ?_)
    refine ag_iload_2 (q := 92) dX7_otherwise_91 rfl ?_
    refine ag_icmp_ne (tgt := 120) (q := 95) dX7_otherwise_92 rfl rfl ?_ ?_
    · refine ag_iinc_7 (q := 123) (d := (1)) dX7_otherwise_120 rfl (Nat.le_of_ble_eq_true rfl) rfl (by decide) ?_
      refine ag_goto (q := 58) dX7_otherwise_123 rfl ?_
      exact ih x1 x2 x3 x4 x5 x6 (x7 + (1)) s77
    refine ag_iinc_4 (q := 98) (d := (1)) dX7_otherwise_95 rfl (Nat.le_of_ble_eq_true rfl) rfl (by decide) ?_
    refine ag_iload_5 (q := 100) dX7_otherwise_98 rfl ?_
    refine ag_bipush (q := 102) (v := -4) dX7_otherwise_100 rfl (by decide) ?_
    refine ag_icmp_ne (tgt := 116) (q := 105) dX7_otherwise_102 rfl rfl ?_ ?_
    · refine ag_iload_5 (q := 118) dX7_otherwise_116 rfl ?_
      refine ag_istore_5 (q := 120) dX7_otherwise_118 rfl (Nat.le_of_ble_eq_true rfl) rfl ?_
      refine ag_iinc_7 (q := 123) (d := (1)) dX7_otherwise_120 rfl (Nat.le_of_ble_eq_true rfl) rfl (by decide) ?_
      refine ag_goto (q := 58) dX7_otherwise_123 rfl ?_
      exact ih x1 x2 x3 (x4 + (1)) x5 x6 (x7 + (1)) s77
    refine ag_bipush (q := 107) (v := 100) dX7_otherwise_105 rfl (by decide) ?_
    refine ag_iload_6 (q := 109) dX7_otherwise_107 rfl ?_
    refine ag_imul (q := 110) dX7_otherwise_109 rfl ?_
    refine ag_iload_7 (q := 112) dX7_otherwise_110 rfl ?_
    refine ag_iadd (q := 113) dX7_otherwise_112 rfl ?_
    refine ag_goto (q := 118) dX7_otherwise_113 rfl ?_
    refine ag_istore_5 (q := 120) dX7_otherwise_118 rfl (Nat.le_of_ble_eq_true rfl) rfl ?_
    refine ag_iinc_7 (q := 123) (d := (1)) dX7_otherwise_120 rfl (Nat.le_of_ble_eq_true rfl) rfl (by decide) ?_
    refine ag_goto (q := 58) dX7_otherwise_123 rfl ?_
    exact ih x1 x2 x3 (x4 + (1)) (((100 : Int32) * x6) + x7) x6 (x7 + (1)) s77
def J_X7_otherwise_b43  : Nat → Int32 → Int32 → Int32 → Int32 → Int32 → Int32 → Sg → Option (Int32 × Sg)
  | 0, _, _, _, _, _, _, _ => none
  | k + 1, x1, x2, x3, x4, x5, x6, σ =>
    (if (σ 24 3) ≤ x6 then (if x3 = 0 then (some (x4, σ)) else (some (x5, σ))) else (J_X7_otherwise_b58  (fun x1 x2 x3 x4 x5 x6 σ => J_X7_otherwise_b43   k x1 x2 x3 x4 x5 x6 σ) FU x1 x2 x3 x4 x5 x6 (0 : Int32) σ))
set_option maxHeartbeats 4000000 in
theorem A_X7_otherwise_b43 (K : KT) {N : Nat} (hN : NC ≤ N)  : ∀ (k : Nat) (x1 : Int32) (x2 : Int32) (x3 : Int32) (x4 : Int32) (x5 : Int32) (x6 : Int32) (σ : Sg), AG K mX7_otherwise N (fun a : Int32 × Sg => (some (.int a.1), N, R0, a.2)) (J_X7_otherwise_b43   k x1 x2 x3 x4 x5 x6 σ) 43 [some (.ref 0), some (.int x1), some (.int x2), some (.int x3), some (.int x4), some (.int x5), some (.int x6), none] [] σ := by
  intro k
  induction k with
  | zero => intro x1 x2 x3 x4 x5 x6 σ; exact ag_none
  | succ k ih =>
    intro x1 x2 x3 x4 x5 x6 σ
    rw [J_X7_otherwise_b43]
    refine ag_iload_6 (q := 45) dX7_otherwise_43 rfl ?_
    refine ag_aload_0 (q := 46) dX7_otherwise_45 rfl ?_
    refine ag_getR (q := 49) dX7_otherwise_46 rfl fl7_38 (Nat.lt_of_lt_of_le (by decide : 0 < NC) hN) (congrArg Prod.fst s_0) rfl r_0_4 ?_
    refine ag_getI (q := 52) dX7_otherwise_49 rfl fl7_155 (Nat.lt_of_lt_of_le (by decide : 24 < NC) hN) (congrArg Prod.fst s_24) rfl ?_
    refine ag_icmp_ge (tgt := 132) (q := 55) dX7_otherwise_52 rfl rfl ?_ ?_
    · refine ag_iload_3 (q := 133) dX7_otherwise_132 rfl ?_
      refine ag_if_ne (tgt := 141) (q := 136) dX7_otherwise_133 rfl rfl ?_ ?_
      · refine ag_iload_5 (q := 143) dX7_otherwise_141 rfl ?_
        exact ag_iret dX7_otherwise_143 rfl rfl
      refine ag_iload_4 (q := 138) dX7_otherwise_136 rfl ?_
      refine ag_goto (q := 143) dX7_otherwise_138 rfl ?_
      exact ag_iret dX7_otherwise_143 rfl rfl
    refine ag_iconst (q := 56) (v := 0) dX7_otherwise_55 rfl (by decide) ?_
    refine ag_istore_7 (q := 58) dX7_otherwise_56 rfl (Nat.le_of_ble_eq_true rfl) rfl ?_
    exact A_X7_otherwise_b58 K hN  (fun x1 x2 x3 x4 x5 x6 σ => J_X7_otherwise_b43   k x1 x2 x3 x4 x5 x6 σ) (fun x1 x2 x3 x4 x5 x6 σ => ih x1 x2 x3 x4 x5 x6 σ) FU x1 x2 x3 x4 x5 x6 (0 : Int32) σ
def J_X7_otherwise (a1 : Int32) (a2 : Int32) (a3 : Int32) (σ : Sg) : Option (Int32 × Sg) :=
  (bd1 (J_X1_hasBeast 1 a1 σ) fun r5 => (if r5 = 0 then (some ((-1 : Int32), σ)) else (bd1 (J_X1_hasSquare 1 a2 σ) fun r16 => (if r16 = 0 then (some ((-1 : Int32), σ)) else (if a3 < 0 then (some ((-1 : Int32), σ)) else (if a3 ≤ (1 : Int32) then (J_X7_otherwise_b43   FU a1 a2 a3 (0 : Int32) (-4 : Int32) (0 : Int32) σ) else (some ((-1 : Int32), σ))))))))
set_option maxHeartbeats 4000000 in
theorem A_X7_otherwise (K : KT) {N : Nat} (hN : NC ≤ N) (a1 : Int32) (a2 : Int32) (a3 : Int32) (σ : Sg) : AG K mX7_otherwise N (fun a : Int32 × Sg => (some (.int a.1), N, R0, a.2)) (J_X7_otherwise a1 a2 a3 σ) 0 [some (.ref 0), some (.int a1), some (.int a2), some (.int a3), none, none, none, none] [] σ := by
  unfold J_X7_otherwise
  refine ag_aload_0 (q := 1) dX7_otherwise_0 rfl ?_
  refine ag_getR (q := 4) dX7_otherwise_1 rfl fl7_10 (Nat.lt_of_lt_of_le (by decide : 0 < NC) hN) (congrArg Prod.fst s_0) rfl r_0_0 ?_
  refine ag_iload_1 (q := 5) dX7_otherwise_4 rfl ?_
  refine ag_callV_pI (q := 8) (av := [.int _]) (rest := []) dX7_otherwise_5 rfl lk7_107 (C_X1_hasBeast hN 1 (by decide) a1 _) (by decide) (Nat.le_of_ble_eq_true rfl) (Nat.lt_of_lt_of_le (by decide : 1 < NC) hN) (congrArg Prod.fst s_1) (by decide) (fun _ => rfl) (Nat.le_of_ble_eq_true rfl) rfl (fun r5 e5 => ?_)
  refine ag_if_eq (tgt := 31) (q := 11) dX7_otherwise_8 rfl rfl ?_ ?_
  · refine ag_iconst (q := 32) (v := -1) dX7_otherwise_31 rfl (by decide) ?_
    exact ag_iret dX7_otherwise_32 rfl rfl
  refine ag_aload_0 (q := 12) dX7_otherwise_11 rfl ?_
  refine ag_getR (q := 15) dX7_otherwise_12 rfl fl7_10 (Nat.lt_of_lt_of_le (by decide : 0 < NC) hN) (congrArg Prod.fst s_0) rfl r_0_0 ?_
  refine ag_iload_2 (q := 16) dX7_otherwise_15 rfl ?_
  refine ag_callV_pI (q := 19) (av := [.int _]) (rest := []) dX7_otherwise_16 rfl lk7_97 (C_X1_hasSquare hN 1 (by decide) a2 _) (by decide) (Nat.le_of_ble_eq_true rfl) (Nat.lt_of_lt_of_le (by decide : 1 < NC) hN) (congrArg Prod.fst s_1) (by decide) (fun _ => rfl) (Nat.le_of_ble_eq_true rfl) rfl (fun r16 e16 => ?_)
  refine ag_if_eq (tgt := 31) (q := 22) dX7_otherwise_19 rfl rfl ?_ ?_
  · refine ag_iconst (q := 32) (v := -1) dX7_otherwise_31 rfl (by decide) ?_
    exact ag_iret dX7_otherwise_32 rfl rfl
  refine ag_iload_3 (q := 23) dX7_otherwise_22 rfl ?_
  refine ag_if_lt (tgt := 31) (q := 26) dX7_otherwise_23 rfl rfl ?_ ?_
  · refine ag_iconst (q := 32) (v := -1) dX7_otherwise_31 rfl (by decide) ?_
    exact ag_iret dX7_otherwise_32 rfl rfl
  refine ag_iload_3 (q := 27) dX7_otherwise_26 rfl ?_
  refine ag_iconst (q := 28) (v := 1) dX7_otherwise_27 rfl (by decide) ?_
  refine ag_icmp_le (tgt := 33) (q := 31) dX7_otherwise_28 rfl rfl ?_ ?_
  · refine ag_iconst (q := 34) (v := 0) dX7_otherwise_33 rfl (by decide) ?_
    refine ag_istore_4 (q := 36) dX7_otherwise_34 rfl (Nat.le_of_ble_eq_true rfl) rfl ?_
    refine ag_bipush (q := 38) (v := -4) dX7_otherwise_36 rfl (by decide) ?_
    refine ag_istore_5 (q := 40) dX7_otherwise_38 rfl (Nat.le_of_ble_eq_true rfl) rfl ?_
    refine ag_iconst (q := 41) (v := 0) dX7_otherwise_40 rfl (by decide) ?_
    refine ag_istore_6 (q := 43) dX7_otherwise_41 rfl (Nat.le_of_ble_eq_true rfl) rfl ?_
    exact A_X7_otherwise_b43 K hN   FU a1 a2 a3 (0 : Int32) (-4 : Int32) (0 : Int32) σ
  refine ag_iconst (q := 32) (v := -1) dX7_otherwise_31 rfl (by decide) ?_
  exact ag_iret dX7_otherwise_32 rfl rfl
theorem C_X7_otherwise {N : Nat} (hN : NC ≤ N) (a1 : Int32) (a2 : Int32) (a3 : Int32) (σ : Sg) : ∀ r s', J_X7_otherwise a1 a2 a3 σ = some (r, s') → AMc yX7_otherwise mX7_otherwise [.ref 0, .int a1, .int a2, .int a3] N R0 σ (some (.int r), N, R0, s') := fun r s' e => AMc.of (L := [some (.ref 0), some (.int a1), some (.int a2), some (.int a3), none, none, none, none]) (by decide) rfl (fun _ => rfl) (fun _ => Nat.le_of_ble_eq_true rfl) (Nat.le_refl _) (fun K => A_X7_otherwise K hN a1 a2 a3 σ _ e (Nat.le_refl _))
def J_X7_commonPart_b9  : Nat → Int64 → Int64 → Int32 → Sg → Option Int64
  | 0, _, _, _, _ => none
  | k + 1, x4, x6, x8, σ =>
    (if (100 : Int32) ≤ x8 then (some x4) else (if (lg_cmp x6 (0 : Int64)) = 0 then (some x4) else (if x6 = 0 then none else (J_X7_commonPart_b9   k x6 (rmL x4 x6) (x8 + (1)) σ))))
set_option maxHeartbeats 4000000 in
theorem A_X7_commonPart_b9 (K : KT) {N : Nat} (hN : NC ≤ N)  : ∀ (k : Nat) (x4 : Int64) (x6 : Int64) (x8 : Int32) (σ : Sg), AG K mX7_commonPart N (fun a : Int64 => (some (.long a), N, R0, σ)) (J_X7_commonPart_b9   k x4 x6 x8 σ) 9 [none, none, none, none, some (.long x4), none, some (.long x6), none, some (.int x8), none, none] [] σ := by
  intro k
  induction k with
  | zero => intro x4 x6 x8 σ; exact ag_none
  | succ k ih =>
    intro x4 x6 x8 σ
    rw [J_X7_commonPart_b9]
    refine ag_iload_8 (q := 11) dX7_commonPart_9 rfl ?_
    refine ag_bipush (q := 13) (v := 100) dX7_commonPart_11 rfl (by decide) ?_
    refine ag_icmp_ge (tgt := 44) (q := 16) dX7_commonPart_13 rfl rfl ?_ ?_
    · refine ag_lload_4 (q := 46) dX7_commonPart_44 rfl ?_
      exact ag_lret dX7_commonPart_46 rfl rfl
    refine ag_lload_6 (q := 18) dX7_commonPart_16 rfl ?_
    refine ag_lconst (q := 19) (v := 0) dX7_commonPart_18 rfl (by decide) ?_
    refine ag_lcmp (q := 20) dX7_commonPart_19 rfl ?_
    refine ag_if_eq (tgt := 44) (q := 23) dX7_commonPart_20 rfl rfl ?_ ?_
    · refine ag_lload_4 (q := 46) dX7_commonPart_44 rfl ?_
      exact ag_lret dX7_commonPart_46 rfl rfl
    refine ag_lload_4 (q := 25) dX7_commonPart_23 rfl ?_
    refine ag_lload_6 (q := 27) dX7_commonPart_25 rfl ?_
    refine ag_lrem (q := 28) dX7_commonPart_27 rfl ?_
    refine ag_lstore_9 (q := 30) dX7_commonPart_28 rfl (Nat.le_of_ble_eq_true rfl) rfl ?_
    refine ag_lload_6 (q := 32) dX7_commonPart_30 rfl ?_
    refine ag_lstore_4 (q := 34) dX7_commonPart_32 rfl (Nat.le_of_ble_eq_true rfl) rfl ?_
    refine ag_lload_9 (q := 36) dX7_commonPart_34 rfl ?_
    refine ag_lstore_6 (q := 38) dX7_commonPart_36 rfl (Nat.le_of_ble_eq_true rfl) rfl ?_
    refine ag_iinc_8 (q := 41) (d := (1)) dX7_commonPart_38 rfl (Nat.le_of_ble_eq_true rfl) rfl (by decide) ?_
    refine ag_goto (q := 9) dX7_commonPart_41 rfl ?_
    refine ag_kill_9 ?_
    exact ih x6 (rmL x4 x6) (x8 + (1)) σ
def J_X7_commonPart (a0 : Int64) (a2 : Int64) (σ : Sg) : Option Int64 :=
  (J_X7_commonPart_b9   FU a0 a2 (0 : Int32) σ)
set_option maxHeartbeats 4000000 in
theorem A_X7_commonPart (K : KT) {N : Nat} (hN : NC ≤ N) (a0 : Int64) (a2 : Int64) (σ : Sg) : AG K mX7_commonPart N (fun a : Int64 => (some (.long a), N, R0, σ)) (J_X7_commonPart a0 a2 σ) 0 [some (.long a0), none, some (.long a2), none, none, none, none, none, none, none, none] [] σ := by
  unfold J_X7_commonPart
  refine ag_lload_0 (q := 1) dX7_commonPart_0 rfl ?_
  refine ag_lstore_4 (q := 3) dX7_commonPart_1 rfl (Nat.le_of_ble_eq_true rfl) rfl ?_
  refine ag_lload_2 (q := 4) dX7_commonPart_3 rfl ?_
  refine ag_lstore_6 (q := 6) dX7_commonPart_4 rfl (Nat.le_of_ble_eq_true rfl) rfl ?_
  refine ag_iconst (q := 7) (v := 0) dX7_commonPart_6 rfl (by decide) ?_
  refine ag_istore_8 (q := 9) dX7_commonPart_7 rfl (Nat.le_of_ble_eq_true rfl) rfl ?_
  refine ag_kill_0 ?_
  refine ag_kill_2 ?_
  exact A_X7_commonPart_b9 K hN   FU a0 a2 (0 : Int32) σ
theorem C_X7_commonPart {N : Nat} (hN : NC ≤ N) (a0 : Int64) (a2 : Int64) (σ : Sg) : ∀ r, J_X7_commonPart a0 a2 σ = some r → AMc yX7_commonPart mX7_commonPart [.long a0, .long a2] N R0 σ (some (.long r), N, R0, σ) := fun r e => AMc.of (L := [some (.long a0), none, some (.long a2), none, none, none, none, none, none, none, none]) (by decide) rfl (fun _ => rfl) (fun _ => Nat.le_of_ble_eq_true rfl) (Nat.le_refl _) (fun K => A_X7_commonPart K hN a0 a2 σ _ e (Nat.le_refl _))
def J_X7_wolves_b76  : Nat → Int32 → Int32 → Int32 → Int32 → Int64 → Int32 → Sg → Option (Int32 × Sg)
  | 0, _, _, _, _, _, _, _ => none
  | k + 1, x1, x2, x3, x4, x6, x8, σ =>
    (if x2 ≤ x8 then (bd2 (J_X0_staying 14 x1 x2 x3 σ) fun r107 s107 => (bd1 (J_X7_commonPart r107 x6 s107) fun r116 => (if 0 ≤ (lg_cmp r116 (1 : Int64)) then (if x4 = 0 then (if r116 = 0 then none else (some (((r107 / r116).toInt32), s107))) else (if r116 = 0 then none else (some (((x6 / r116).toInt32), s107)))) else (some ((-4 : Int32), s107))))) else (J_X7_wolves_b76   k x1 x2 x3 x4 (x6 * (10 : Int64)) (x8 + (1)) σ))
set_option maxHeartbeats 4000000 in
theorem A_X7_wolves_b76 (K : KT) {N : Nat} (hN : NC ≤ N)  : ∀ (k : Nat) (x1 : Int32) (x2 : Int32) (x3 : Int32) (x4 : Int32) (x6 : Int64) (x8 : Int32) (σ : Sg), AG K mX7_wolves N (fun a : Int32 × Sg => (some (.int a.1), N, R0, a.2)) (J_X7_wolves_b76   k x1 x2 x3 x4 x6 x8 σ) 76 [some (.ref 0), some (.int x1), some (.int x2), some (.int x3), some (.int x4), none, some (.long x6), none, some (.int x8), none, none, none] [] σ := by
  intro k
  induction k with
  | zero => intro x1 x2 x3 x4 x6 x8 σ; exact ag_none
  | succ k ih =>
    intro x1 x2 x3 x4 x6 x8 σ
    rw [J_X7_wolves_b76]
    refine ag_iload_8 (q := 78) dX7_wolves_76 rfl ?_
    refine ag_iload_2 (q := 79) dX7_wolves_78 rfl ?_
    refine ag_icmp_ge (tgt := 96) (q := 82) dX7_wolves_79 rfl rfl ?_ ?_
    · refine ag_aload_0 (q := 97) dX7_wolves_96 rfl ?_
      refine ag_getR (q := 100) dX7_wolves_97 rfl fl7_61 (Nat.lt_of_lt_of_le (by decide : 0 < NC) hN) (congrArg Prod.fst s_0) rfl r_0_7 ?_
      refine ag_aload_0 (q := 101) dX7_wolves_100 rfl ?_
      refine ag_getR (q := 104) dX7_wolves_101 rfl fl7_28 (Nat.lt_of_lt_of_le (by decide : 0 < NC) hN) (congrArg Prod.fst s_0) rfl r_0_2 ?_
      refine ag_iload_1 (q := 105) dX7_wolves_104 rfl ?_
      refine ag_iload_2 (q := 106) dX7_wolves_105 rfl ?_
      refine ag_iload_3 (q := 107) dX7_wolves_106 rfl ?_
      refine ag_callV_mL (q := 110) (av := [.ref _, .int _, .int _, .int _]) (rest := []) dX7_wolves_107 rfl lk7_206 (C_X0_staying hN 14 (by decide) x1 x2 x3 _) (by decide) (Nat.le_of_ble_eq_true rfl) (Nat.lt_of_lt_of_le (by decide : 92 < NC) hN) (congrArg Prod.fst s_92) (by decide) (fun _ => rfl) (Nat.le_of_ble_eq_true rfl) rfl (fun r107 s107 e107 => ?_)
      refine ag_lstore_8 (q := 112) dX7_wolves_110 rfl (Nat.le_of_ble_eq_true rfl) rfl ?_
      refine ag_lload_8 (q := 114) dX7_wolves_112 rfl ?_
      refine ag_lload_6 (q := 116) dX7_wolves_114 rfl ?_
      refine ag_callS_pL (q := 119) (av := [.long _, .long _]) (rest := []) dX7_wolves_116 rfl lk7_210 (C_X7_commonPart hN r107 x6 _) (by decide) (Nat.le_of_ble_eq_true rfl) (fun _ => rfl) (Nat.le_of_ble_eq_true rfl) rfl (fun r116 e116 => ?_)
      refine ag_lstore_10 (q := 121) dX7_wolves_119 rfl (Nat.le_of_ble_eq_true rfl) rfl ?_
      refine ag_lload_10 (q := 123) dX7_wolves_121 rfl ?_
      refine ag_lconst (q := 124) (v := 1) dX7_wolves_123 rfl (by decide) ?_
      refine ag_lcmp (q := 125) dX7_wolves_124 rfl ?_
      refine ag_if_ge (tgt := 133) (q := 128) dX7_wolves_125 rfl rfl ?_ ?_
      · refine ag_iload_4 (q := 135) dX7_wolves_133 rfl ?_
        refine ag_if_ne (tgt := 143) (q := 138) dX7_wolves_135 rfl rfl ?_ ?_
        · refine ag_lload_6 (q := 145) dX7_wolves_143 rfl ?_
          refine ag_lload_10 (q := 147) dX7_wolves_145 rfl ?_
          refine ag_ldiv (q := 148) dX7_wolves_147 rfl ?_
          refine ag_l2i (q := 149) dX7_wolves_148 rfl ?_
          exact ag_iret dX7_wolves_149 rfl rfl
        refine ag_lload_8 (q := 140) dX7_wolves_138 rfl ?_
        refine ag_goto (q := 145) dX7_wolves_140 rfl ?_
        refine ag_lload_10 (q := 147) dX7_wolves_145 rfl ?_
        refine ag_ldiv (q := 148) dX7_wolves_147 rfl ?_
        refine ag_l2i (q := 149) dX7_wolves_148 rfl ?_
        exact ag_iret dX7_wolves_149 rfl rfl
      refine ag_bipush (q := 130) (v := -4) dX7_wolves_128 rfl (by decide) ?_
      refine ag_goto (q := 149) dX7_wolves_130 rfl ?_
      exact ag_iret dX7_wolves_149 rfl rfl
    refine ag_lload_6 (q := 84) dX7_wolves_82 rfl ?_
    refine ag_ldc2 (q := 87) dX7_wolves_84 rfl kc7_204 ?_
    refine ag_lmul (q := 88) dX7_wolves_87 rfl ?_
    refine ag_lstore_6 (q := 90) dX7_wolves_88 rfl (Nat.le_of_ble_eq_true rfl) rfl ?_
    refine ag_iinc_8 (q := 93) (d := (1)) dX7_wolves_90 rfl (Nat.le_of_ble_eq_true rfl) rfl (by decide) ?_
    refine ag_goto (q := 76) dX7_wolves_93 rfl ?_
    exact ih x1 x2 x3 x4 (x6 * (10 : Int64)) (x8 + (1)) σ
def J_X7_wolves_b36  (x1 : Int32) (x2 : Int32) (x3 : Int32) (x4 : Int32) (w0 : Int32) (σ : Sg) : Option (Int32 × Sg) :=
  (if w0 = 0 then (some ((-1 : Int32), σ)) else (if x4 < 0 then (some ((-1 : Int32), σ)) else (if x4 ≤ (1 : Int32) then (bd1 (J_X2_isOff 14 x1 σ) fun r61 => (if r61 = 0 then (J_X7_wolves_b76   FU x1 x2 x3 x4 (1 : Int64) (0 : Int32) σ) else (some ((-2 : Int32), σ)))) else (some ((-1 : Int32), σ)))))
set_option maxHeartbeats 4000000 in
theorem A_X7_wolves_b36 (K : KT) {N : Nat} (hN : NC ≤ N)  (x1 : Int32) (x2 : Int32) (x3 : Int32) (x4 : Int32) (w0 : Int32) (σ : Sg) : AG K mX7_wolves N (fun a : Int32 × Sg => (some (.int a.1), N, R0, a.2)) (J_X7_wolves_b36   x1 x2 x3 x4 w0 σ) 36 [some (.ref 0), some (.int x1), some (.int x2), some (.int x3), some (.int x4), none, none, none, none, none, none, none] [.int w0] σ := by
  unfold J_X7_wolves_b36
  refine ag_istore_5 (q := 38) dX7_wolves_36 rfl (Nat.le_of_ble_eq_true rfl) rfl ?_
  refine ag_iload_5 (q := 40) dX7_wolves_38 rfl ?_
  refine ag_if_eq (tgt := 54) (q := 43) dX7_wolves_40 rfl rfl ?_ ?_
  · refine ag_iconst (q := 55) (v := -1) dX7_wolves_54 rfl (by decide) ?_
    exact ag_iret dX7_wolves_55 rfl rfl
  refine ag_iload_4 (q := 45) dX7_wolves_43 rfl ?_
  refine ag_if_lt (tgt := 54) (q := 48) dX7_wolves_45 rfl rfl ?_ ?_
  · refine ag_iconst (q := 55) (v := -1) dX7_wolves_54 rfl (by decide) ?_
    exact ag_iret dX7_wolves_55 rfl rfl
  refine ag_iload_4 (q := 50) dX7_wolves_48 rfl ?_
  refine ag_iconst (q := 51) (v := 1) dX7_wolves_50 rfl (by decide) ?_
  refine ag_icmp_le (tgt := 56) (q := 54) dX7_wolves_51 rfl rfl ?_ ?_
  · refine ag_aload_0 (q := 57) dX7_wolves_56 rfl ?_
    refine ag_getR (q := 60) dX7_wolves_57 rfl fl7_28 (Nat.lt_of_lt_of_le (by decide : 0 < NC) hN) (congrArg Prod.fst s_0) rfl r_0_2 ?_
    refine ag_iload_1 (q := 61) dX7_wolves_60 rfl ?_
    refine ag_callV_pI (q := 64) (av := [.int _]) (rest := []) dX7_wolves_61 rfl lk7_125 (C_X2_isOff hN 14 (by decide) x1 _) (by decide) (Nat.le_of_ble_eq_true rfl) (Nat.lt_of_lt_of_le (by decide : 14 < NC) hN) (congrArg Prod.fst s_14) (by decide) (fun _ => rfl) (Nat.le_of_ble_eq_true rfl) rfl (fun r61 e61 => ?_)
    refine ag_if_eq (tgt := 70) (q := 67) dX7_wolves_64 rfl rfl ?_ ?_
    · refine ag_lconst (q := 71) (v := 1) dX7_wolves_70 rfl (by decide) ?_
      refine ag_lstore_6 (q := 73) dX7_wolves_71 rfl (Nat.le_of_ble_eq_true rfl) rfl ?_
      refine ag_iconst (q := 74) (v := 0) dX7_wolves_73 rfl (by decide) ?_
      refine ag_istore_8 (q := 76) dX7_wolves_74 rfl (Nat.le_of_ble_eq_true rfl) rfl ?_
      refine ag_kill_5 ?_
      exact A_X7_wolves_b76 K hN   FU x1 x2 x3 x4 (1 : Int64) (0 : Int32) σ
    refine ag_bipush (q := 69) (v := -2) dX7_wolves_67 rfl (by decide) ?_
    exact ag_iret dX7_wolves_69 rfl rfl
  refine ag_iconst (q := 55) (v := -1) dX7_wolves_54 rfl (by decide) ?_
  exact ag_iret dX7_wolves_55 rfl rfl
def J_X7_wolves (a1 : Int32) (a2 : Int32) (a3 : Int32) (a4 : Int32) (σ : Sg) : Option (Int32 × Sg) :=
  (bd1 (J_X1_hasBeast 1 a1 σ) fun r5 => (if r5 = 0 then (J_X7_wolves_b36   a1 a2 a3 a4 (0 : Int32) σ) else (if a2 < 0 then (J_X7_wolves_b36   a1 a2 a3 a4 (0 : Int32) σ) else (if (8 : Int32) < a2 then (J_X7_wolves_b36   a1 a2 a3 a4 (0 : Int32) σ) else (if a3 < 0 then (J_X7_wolves_b36   a1 a2 a3 a4 (0 : Int32) σ) else (if (10 : Int32) < a3 then (J_X7_wolves_b36   a1 a2 a3 a4 (0 : Int32) σ) else (J_X7_wolves_b36   a1 a2 a3 a4 (1 : Int32) σ)))))))
set_option maxHeartbeats 4000000 in
theorem A_X7_wolves (K : KT) {N : Nat} (hN : NC ≤ N) (a1 : Int32) (a2 : Int32) (a3 : Int32) (a4 : Int32) (σ : Sg) : AG K mX7_wolves N (fun a : Int32 × Sg => (some (.int a.1), N, R0, a.2)) (J_X7_wolves a1 a2 a3 a4 σ) 0 [some (.ref 0), some (.int a1), some (.int a2), some (.int a3), some (.int a4), none, none, none, none, none, none, none] [] σ := by
  unfold J_X7_wolves
  refine ag_aload_0 (q := 1) dX7_wolves_0 rfl ?_
  refine ag_getR (q := 4) dX7_wolves_1 rfl fl7_10 (Nat.lt_of_lt_of_le (by decide : 0 < NC) hN) (congrArg Prod.fst s_0) rfl r_0_0 ?_
  refine ag_iload_1 (q := 5) dX7_wolves_4 rfl ?_
  refine ag_callV_pI (q := 8) (av := [.int _]) (rest := []) dX7_wolves_5 rfl lk7_107 (C_X1_hasBeast hN 1 (by decide) a1 _) (by decide) (Nat.le_of_ble_eq_true rfl) (Nat.lt_of_lt_of_le (by decide : 1 < NC) hN) (congrArg Prod.fst s_1) (by decide) (fun _ => rfl) (Nat.le_of_ble_eq_true rfl) rfl (fun r5 e5 => ?_)
  refine ag_if_eq (tgt := 35) (q := 11) dX7_wolves_8 rfl rfl ?_ ?_
  · refine ag_iconst (q := 36) (v := 0) dX7_wolves_35 rfl (by decide) ?_
    exact A_X7_wolves_b36 K hN   a1 a2 a3 a4 (0 : Int32) σ
  refine ag_iload_2 (q := 12) dX7_wolves_11 rfl ?_
  refine ag_if_lt (tgt := 35) (q := 15) dX7_wolves_12 rfl rfl ?_ ?_
  · refine ag_iconst (q := 36) (v := 0) dX7_wolves_35 rfl (by decide) ?_
    exact A_X7_wolves_b36 K hN   a1 a2 a3 a4 (0 : Int32) σ
  refine ag_iload_2 (q := 16) dX7_wolves_15 rfl ?_
  refine ag_bipush (q := 18) (v := 8) dX7_wolves_16 rfl (by decide) ?_
  refine ag_icmp_gt (tgt := 35) (q := 21) dX7_wolves_18 rfl rfl ?_ ?_
  · refine ag_iconst (q := 36) (v := 0) dX7_wolves_35 rfl (by decide) ?_
    exact A_X7_wolves_b36 K hN   a1 a2 a3 a4 (0 : Int32) σ
  refine ag_iload_3 (q := 22) dX7_wolves_21 rfl ?_
  refine ag_if_lt (tgt := 35) (q := 25) dX7_wolves_22 rfl rfl ?_ ?_
  · refine ag_iconst (q := 36) (v := 0) dX7_wolves_35 rfl (by decide) ?_
    exact A_X7_wolves_b36 K hN   a1 a2 a3 a4 (0 : Int32) σ
  refine ag_iload_3 (q := 26) dX7_wolves_25 rfl ?_
  refine ag_bipush (q := 28) (v := 10) dX7_wolves_26 rfl (by decide) ?_
  refine ag_icmp_gt (tgt := 35) (q := 31) dX7_wolves_28 rfl rfl ?_ ?_
  · refine ag_iconst (q := 36) (v := 0) dX7_wolves_35 rfl (by decide) ?_
    exact A_X7_wolves_b36 K hN   a1 a2 a3 a4 (0 : Int32) σ
  refine ag_iconst (q := 32) (v := 1) dX7_wolves_31 rfl (by decide) ?_
  refine ag_goto (q := 36) dX7_wolves_32 rfl ?_
  exact A_X7_wolves_b36 K hN   a1 a2 a3 a4 (1 : Int32) σ
theorem C_X7_wolves {N : Nat} (hN : NC ≤ N) (a1 : Int32) (a2 : Int32) (a3 : Int32) (a4 : Int32) (σ : Sg) : ∀ r s', J_X7_wolves a1 a2 a3 a4 σ = some (r, s') → AMc yX7_wolves mX7_wolves [.ref 0, .int a1, .int a2, .int a3, .int a4] N R0 σ (some (.int r), N, R0, s') := fun r s' e => AMc.of (L := [some (.ref 0), some (.int a1), some (.int a2), some (.int a3), some (.int a4), none, none, none, none, none, none, none]) (by decide) rfl (fun _ => rfl) (fun _ => Nat.le_of_ble_eq_true rfl) (Nat.le_refl _) (fun K => A_X7_wolves K hN a1 a2 a3 a4 σ _ e (Nat.le_refl _))
def J_X7_draw (a0 : Int32) (a1 : Int32) (σ : Sg) : Option Int32 :=
  (some ((rmL (((((7919 : Int64) * (a0.toInt64)) + ((6151 : Int64) * (a1.toInt64))) + (1 : Int64)) * ((((7919 : Int64) * (a0.toInt64)) + ((6151 : Int64) * (a1.toInt64))) + (1 : Int64))) (65521 : Int64)).toInt32))
set_option maxHeartbeats 4000000 in
theorem A_X7_draw (K : KT) {N : Nat} (hN : NC ≤ N) (a0 : Int32) (a1 : Int32) (σ : Sg) : AG K mX7_draw N (fun a : Int32 => (some (.int a), N, R0, σ)) (J_X7_draw a0 a1 σ) 0 [some (.int a0), some (.int a1), none, none] [] σ := by
  unfold J_X7_draw
  refine ag_ldc2 (q := 3) dX7_draw_0 rfl kc7_247 ?_
  refine ag_iload_0 (q := 4) dX7_draw_3 rfl ?_
  refine ag_i2l (q := 5) dX7_draw_4 rfl ?_
  refine ag_lmul (q := 6) dX7_draw_5 rfl ?_
  refine ag_ldc2 (q := 9) dX7_draw_6 rfl kc7_249 ?_
  refine ag_iload_1 (q := 10) dX7_draw_9 rfl ?_
  refine ag_i2l (q := 11) dX7_draw_10 rfl ?_
  refine ag_lmul (q := 12) dX7_draw_11 rfl ?_
  refine ag_ladd (q := 13) dX7_draw_12 rfl ?_
  refine ag_lconst (q := 14) (v := 1) dX7_draw_13 rfl (by decide) ?_
  refine ag_ladd (q := 15) dX7_draw_14 rfl ?_
  refine ag_lstore_2 (q := 16) dX7_draw_15 rfl (Nat.le_of_ble_eq_true rfl) rfl ?_
  refine ag_lload_2 (q := 17) dX7_draw_16 rfl ?_
  refine ag_lload_2 (q := 18) dX7_draw_17 rfl ?_
  refine ag_lmul (q := 19) dX7_draw_18 rfl ?_
  refine ag_ldc2 (q := 22) dX7_draw_19 rfl kc7_251 ?_
  refine ag_lremK (q := 23) dX7_draw_22 rfl (by decide) ?_
  refine ag_l2i (q := 24) dX7_draw_23 rfl ?_
  exact ag_iret dX7_draw_24 rfl rfl
theorem C_X7_draw {N : Nat} (hN : NC ≤ N) (a0 : Int32) (a1 : Int32) (σ : Sg) : ∀ r, J_X7_draw a0 a1 σ = some r → AMc yX7_draw mX7_draw [.int a0, .int a1] N R0 σ (some (.int r), N, R0, σ) := fun r e => AMc.of (L := [some (.int a0), some (.int a1), none, none]) (by decide) rfl (fun _ => rfl) (fun _ => Nat.le_of_ble_eq_true rfl) (Nat.le_refl _) (fun K => A_X7_draw K hN a0 a1 σ _ e (Nat.le_refl _))
def J_X7_season_b127  (x3 : Int32) (σ : Sg) : Option (Int32 × Sg) :=
  (if x3 = 0 then (bd1 (J_X2_worth 19 σ) fun r135 => (some ((r135 + (100 : Int32)), σ))) else (bd1 (J_X2_staying 19 (0 : Int32) σ) fun r149 => (bd1 (J_X2_staying 19 (1 : Int32) σ) fun r157 => (some ((r149 + r157), σ)))))
set_option maxHeartbeats 4000000 in
theorem A_X7_season_b127 (K : KT) {N : Nat} (hN : NC ≤ N)  (x3 : Int32) (σ : Sg) : AG K mX7_season N (fun a : Int32 × Sg => (some (.int a.1), N, R0, a.2)) (J_X7_season_b127   x3 σ) 127 [some (.ref 0), none, none, some (.int x3), none, none, none] [] σ := by
  unfold J_X7_season_b127
  refine ag_iload_3 (q := 128) dX7_season_127 rfl ?_
  refine ag_if_ne (tgt := 144) (q := 131) dX7_season_128 rfl rfl ?_ ?_
  · refine ag_aload_0 (q := 145) dX7_season_144 rfl ?_
    refine ag_getR (q := 148) dX7_season_145 rfl fl7_32 (Nat.lt_of_lt_of_le (by decide : 0 < NC) hN) (congrArg Prod.fst s_0) rfl r_0_3 ?_
    refine ag_iconst (q := 149) (v := 0) dX7_season_148 rfl (by decide) ?_
    refine ag_callV_pI (q := 152) (av := [.int _]) (rest := []) dX7_season_149 rfl lk7_224 (C_X2_staying hN 19 (by decide) (0 : Int32) _) (by decide) (Nat.le_of_ble_eq_true rfl) (Nat.lt_of_lt_of_le (by decide : 19 < NC) hN) (congrArg Prod.fst s_19) (by decide) (fun _ => rfl) (Nat.le_of_ble_eq_true rfl) rfl (fun r149 e149 => ?_)
    refine ag_aload_0 (q := 153) dX7_season_152 rfl ?_
    refine ag_getR (q := 156) dX7_season_153 rfl fl7_32 (Nat.lt_of_lt_of_le (by decide : 0 < NC) hN) (congrArg Prod.fst s_0) rfl r_0_3 ?_
    refine ag_iconst (q := 157) (v := 1) dX7_season_156 rfl (by decide) ?_
    refine ag_callV_pI (q := 160) (av := [.int _]) (rest := [.int _]) dX7_season_157 rfl lk7_224 (C_X2_staying hN 19 (by decide) (1 : Int32) _) (by decide) (Nat.le_of_ble_eq_true rfl) (Nat.lt_of_lt_of_le (by decide : 19 < NC) hN) (congrArg Prod.fst s_19) (by decide) (fun _ => rfl) (Nat.le_of_ble_eq_true rfl) rfl (fun r157 e157 => ?_)
    refine ag_iadd (q := 161) dX7_season_160 rfl ?_
    exact ag_iret dX7_season_161 rfl rfl
  refine ag_aload_0 (q := 132) dX7_season_131 rfl ?_
  refine ag_getR (q := 135) dX7_season_132 rfl fl7_32 (Nat.lt_of_lt_of_le (by decide : 0 < NC) hN) (congrArg Prod.fst s_0) rfl r_0_3 ?_
  refine ag_callV_pI (q := 138) (av := []) (rest := []) dX7_season_135 rfl lk7_221 (C_X2_worth hN 19 (by decide) _) (by decide) (Nat.le_of_ble_eq_true rfl) (Nat.lt_of_lt_of_le (by decide : 19 < NC) hN) (congrArg Prod.fst s_19) (by decide) (fun _ => rfl) (Nat.le_of_ble_eq_true rfl) rfl (fun r135 e135 => ?_)
  refine ag_bipush (q := 140) (v := 100) dX7_season_138 rfl (by decide) ?_
  refine ag_iadd (q := 141) dX7_season_140 rfl ?_
  refine ag_goto (q := 161) dX7_season_141 rfl ?_
  exact ag_iret dX7_season_161 rfl rfl
def J_X7_season_b99  (y47 : Int32 → Int32 → Int32 → Int32 → Sg → Option (Int32 × Sg)) (x1 : Int32) (x2 : Int32) (x3 : Int32) (x4 : Int32) (x5 : Int32) (w0 : Int32) (σ : Sg) : Option (Int32 × Sg) :=
  (bd2 (J_X2_live 19 (((10 : Int32) * w0) + (rmI (x5 / (64 : Int32)) (4 : Int32))) σ) fun r118 s118 => (y47 x1 x2 x3 (x4 + (1)) s118))
set_option maxHeartbeats 4000000 in
theorem A_X7_season_b99 (K : KT) {N : Nat} (hN : NC ≤ N)  (y47 : Int32 → Int32 → Int32 → Int32 → Sg → Option (Int32 × Sg)) (hy47 : ∀ (x1 : Int32) (x2 : Int32) (x3 : Int32) (x4 : Int32) (σ : Sg), AG K mX7_season N (fun a : Int32 × Sg => (some (.int a.1), N, R0, a.2)) (y47 x1 x2 x3 x4 σ) 47 [some (.ref 0), some (.int x1), some (.int x2), some (.int x3), some (.int x4), none, none] [] σ) (x1 : Int32) (x2 : Int32) (x3 : Int32) (x4 : Int32) (x5 : Int32) (w0 : Int32) (σ : Sg) : AG K mX7_season N (fun a : Int32 × Sg => (some (.int a.1), N, R0, a.2)) (J_X7_season_b99  y47 x1 x2 x3 x4 x5 w0 σ) 99 [some (.ref 0), some (.int x1), some (.int x2), some (.int x3), some (.int x4), some (.int x5), none] [.int w0] σ := by
  unfold J_X7_season_b99
  refine ag_istore_6 (q := 101) dX7_season_99 rfl (Nat.le_of_ble_eq_true rfl) rfl ?_
  refine ag_aload_0 (q := 102) dX7_season_101 rfl ?_
  refine ag_getR (q := 105) dX7_season_102 rfl fl7_32 (Nat.lt_of_lt_of_le (by decide : 0 < NC) hN) (congrArg Prod.fst s_0) rfl r_0_3 ?_
  refine ag_bipush (q := 107) (v := 10) dX7_season_105 rfl (by decide) ?_
  refine ag_iload_6 (q := 109) dX7_season_107 rfl ?_
  refine ag_imul (q := 110) dX7_season_109 rfl ?_
  refine ag_iload_5 (q := 112) dX7_season_110 rfl ?_
  refine ag_bipush (q := 114) (v := 64) dX7_season_112 rfl (by decide) ?_
  refine ag_idivK (q := 115) dX7_season_114 rfl (by decide) ?_
  refine ag_iconst (q := 116) (v := 4) dX7_season_115 rfl (by decide) ?_
  refine ag_iremK (q := 117) dX7_season_116 rfl (by decide) ?_
  refine ag_iadd (q := 118) dX7_season_117 rfl ?_
  refine ag_callV_mU (q := 121) (av := [.int _]) (rest := []) dX7_season_118 rfl lk7_217 (C_X2_live hN 19 (by decide) (((10 : Int32) * w0) + (rmI (x5 / (64 : Int32)) (4 : Int32))) _) (by decide) (Nat.le_of_ble_eq_true rfl) (Nat.lt_of_lt_of_le (by decide : 19 < NC) hN) (congrArg Prod.fst s_19) (by decide) (fun _ => rfl) (Nat.le_of_ble_eq_true rfl) rfl (fun r118 s118 e118 => ?_)
  refine ag_iinc_4 (q := 124) (d := (1)) dX7_season_121 rfl (Nat.le_of_ble_eq_true rfl) rfl (by decide) ?_
  refine ag_goto (q := 47) dX7_season_124 rfl ?_
  refine ag_kill_5 ?_
  refine ag_kill_6 ?_
  exact hy47 x1 x2 x3 (x4 + (1)) s118
def J_X7_season_b47  : Nat → Int32 → Int32 → Int32 → Int32 → Sg → Option (Int32 × Sg)
  | 0, _, _, _, _, _ => none
  | k + 1, x1, x2, x3, x4, σ =>
    (if x2 ≤ x4 then (J_X7_season_b127   x3 σ) else (bd1 (J_X2_lost 19 σ) fun r57 => (if r57 = 0 then (bd1 (J_X7_draw x1 x4 σ) fun r66 => (if (1 : Int32) ≤ (σ 1 3) then (if (σ 1 3) = 0 then none else (J_X7_season_b99  (fun x1 x2 x3 x4 σ => J_X7_season_b47   k x1 x2 x3 x4 σ) x1 x2 x3 x4 r66 (rmI (r66 / (8 : Int32)) (σ 1 3)) σ)) else (J_X7_season_b99  (fun x1 x2 x3 x4 σ => J_X7_season_b47   k x1 x2 x3 x4 σ) x1 x2 x3 x4 r66 (0 : Int32) σ))) else (J_X7_season_b127   x3 σ))))
set_option maxHeartbeats 4000000 in
theorem A_X7_season_b47 (K : KT) {N : Nat} (hN : NC ≤ N)  : ∀ (k : Nat) (x1 : Int32) (x2 : Int32) (x3 : Int32) (x4 : Int32) (σ : Sg), AG K mX7_season N (fun a : Int32 × Sg => (some (.int a.1), N, R0, a.2)) (J_X7_season_b47   k x1 x2 x3 x4 σ) 47 [some (.ref 0), some (.int x1), some (.int x2), some (.int x3), some (.int x4), none, none] [] σ := by
  intro k
  induction k with
  | zero => intro x1 x2 x3 x4 σ; exact ag_none
  | succ k ih =>
    intro x1 x2 x3 x4 σ
    rw [J_X7_season_b47]
    refine ag_iload_4 (q := 49) dX7_season_47 rfl ?_
    refine ag_iload_2 (q := 50) dX7_season_49 rfl ?_
    refine ag_icmp_ge (tgt := 127) (q := 53) dX7_season_50 rfl rfl ?_ ?_
    · refine ag_kill_1 ?_
      refine ag_kill_2 ?_
      refine ag_kill_4 ?_
      exact A_X7_season_b127 K hN   x3 σ
    refine ag_aload_0 (q := 54) dX7_season_53 rfl ?_
    refine ag_getR (q := 57) dX7_season_54 rfl fl7_32 (Nat.lt_of_lt_of_le (by decide : 0 < NC) hN) (congrArg Prod.fst s_0) rfl r_0_3 ?_
    refine ag_callV_pI (q := 60) (av := []) (rest := []) dX7_season_57 rfl lk7_139 (C_X2_lost hN 19 (by decide) _) (by decide) (Nat.le_of_ble_eq_true rfl) (Nat.lt_of_lt_of_le (by decide : 19 < NC) hN) (congrArg Prod.fst s_19) (by decide) (fun _ => rfl) (Nat.le_of_ble_eq_true rfl) rfl (fun r57 e57 => ?_)
    refine ag_if_ne (tgt := 127) (q := 63) dX7_season_60 rfl rfl ?_ ?_
    · refine ag_kill_1 ?_
      refine ag_kill_2 ?_
      refine ag_kill_4 ?_
      exact A_X7_season_b127 K hN   x3 σ
    refine ag_iload_1 (q := 64) dX7_season_63 rfl ?_
    refine ag_iload_4 (q := 66) dX7_season_64 rfl ?_
    refine ag_callS_pI (q := 69) (av := [.int _, .int _]) (rest := []) dX7_season_66 rfl lk7_214 (C_X7_draw hN x1 x4 _) (by decide) (Nat.le_of_ble_eq_true rfl) (fun _ => rfl) (Nat.le_of_ble_eq_true rfl) rfl (fun r66 e66 => ?_)
    refine ag_istore_5 (q := 71) dX7_season_69 rfl (Nat.le_of_ble_eq_true rfl) rfl ?_
    refine ag_aload_0 (q := 72) dX7_season_71 rfl ?_
    refine ag_getR (q := 75) dX7_season_72 rfl fl7_10 (Nat.lt_of_lt_of_le (by decide : 0 < NC) hN) (congrArg Prod.fst s_0) rfl r_0_0 ?_
    refine ag_getI (q := 78) dX7_season_75 rfl fl7_94 (Nat.lt_of_lt_of_le (by decide : 1 < NC) hN) (congrArg Prod.fst s_1) rfl ?_
    refine ag_iconst (q := 79) (v := 1) dX7_season_78 rfl (by decide) ?_
    refine ag_icmp_ge (tgt := 86) (q := 82) dX7_season_79 rfl rfl ?_ ?_
    · refine ag_iload_5 (q := 88) dX7_season_86 rfl ?_
      refine ag_bipush (q := 90) (v := 8) dX7_season_88 rfl (by decide) ?_
      refine ag_idivK (q := 91) dX7_season_90 rfl (by decide) ?_
      refine ag_aload_0 (q := 92) dX7_season_91 rfl ?_
      refine ag_getR (q := 95) dX7_season_92 rfl fl7_10 (Nat.lt_of_lt_of_le (by decide : 0 < NC) hN) (congrArg Prod.fst s_0) rfl r_0_0 ?_
      refine ag_getI (q := 98) dX7_season_95 rfl fl7_94 (Nat.lt_of_lt_of_le (by decide : 1 < NC) hN) (congrArg Prod.fst s_1) rfl ?_
      refine ag_irem (q := 99) dX7_season_98 rfl ?_
      exact A_X7_season_b99 K hN  (fun x1 x2 x3 x4 σ => J_X7_season_b47   k x1 x2 x3 x4 σ) (fun x1 x2 x3 x4 σ => ih x1 x2 x3 x4 σ) x1 x2 x3 x4 r66 (rmI (r66 / (8 : Int32)) (σ 1 3)) σ
    refine ag_iconst (q := 83) (v := 0) dX7_season_82 rfl (by decide) ?_
    refine ag_goto (q := 99) dX7_season_83 rfl ?_
    exact A_X7_season_b99 K hN  (fun x1 x2 x3 x4 σ => J_X7_season_b47   k x1 x2 x3 x4 σ) (fun x1 x2 x3 x4 σ => ih x1 x2 x3 x4 σ) x1 x2 x3 x4 r66 (0 : Int32) σ
def J_X7_season (a1 : Int32) (a2 : Int32) (a3 : Int32) (σ : Sg) : Option (Int32 × Sg) :=
  (if a1 < 0 then (some ((-1 : Int32), σ)) else (if (9999 : Int32) < a1 then (some ((-1 : Int32), σ)) else (if a2 < (1 : Int32) then (some ((-1 : Int32), σ)) else (if (60 : Int32) < a2 then (some ((-1 : Int32), σ)) else (if a3 < 0 then (some ((-1 : Int32), σ)) else (if a3 ≤ (1 : Int32) then (bd2 (J_X2_copyFrom 19 14 σ) fun r41 s41 => (J_X7_season_b47   FU a1 a2 a3 (0 : Int32) s41)) else (some ((-1 : Int32), σ))))))))
set_option maxHeartbeats 4000000 in
theorem A_X7_season (K : KT) {N : Nat} (hN : NC ≤ N) (a1 : Int32) (a2 : Int32) (a3 : Int32) (σ : Sg) : AG K mX7_season N (fun a : Int32 × Sg => (some (.int a.1), N, R0, a.2)) (J_X7_season a1 a2 a3 σ) 0 [some (.ref 0), some (.int a1), some (.int a2), some (.int a3), none, none, none] [] σ := by
  unfold J_X7_season
  refine ag_iload_1 (q := 1) dX7_season_0 rfl ?_
  refine ag_if_lt (tgt := 31) (q := 4) dX7_season_1 rfl rfl ?_ ?_
  · refine ag_iconst (q := 32) (v := -1) dX7_season_31 rfl (by decide) ?_
    exact ag_iret dX7_season_32 rfl rfl
  refine ag_iload_1 (q := 5) dX7_season_4 rfl ?_
  refine ag_sipush (q := 8) (v := 9999) dX7_season_5 rfl (by decide) ?_
  refine ag_icmp_gt (tgt := 31) (q := 11) dX7_season_8 rfl rfl ?_ ?_
  · refine ag_iconst (q := 32) (v := -1) dX7_season_31 rfl (by decide) ?_
    exact ag_iret dX7_season_32 rfl rfl
  refine ag_iload_2 (q := 12) dX7_season_11 rfl ?_
  refine ag_iconst (q := 13) (v := 1) dX7_season_12 rfl (by decide) ?_
  refine ag_icmp_lt (tgt := 31) (q := 16) dX7_season_13 rfl rfl ?_ ?_
  · refine ag_iconst (q := 32) (v := -1) dX7_season_31 rfl (by decide) ?_
    exact ag_iret dX7_season_32 rfl rfl
  refine ag_iload_2 (q := 17) dX7_season_16 rfl ?_
  refine ag_bipush (q := 19) (v := 60) dX7_season_17 rfl (by decide) ?_
  refine ag_icmp_gt (tgt := 31) (q := 22) dX7_season_19 rfl rfl ?_ ?_
  · refine ag_iconst (q := 32) (v := -1) dX7_season_31 rfl (by decide) ?_
    exact ag_iret dX7_season_32 rfl rfl
  refine ag_iload_3 (q := 23) dX7_season_22 rfl ?_
  refine ag_if_lt (tgt := 31) (q := 26) dX7_season_23 rfl rfl ?_ ?_
  · refine ag_iconst (q := 32) (v := -1) dX7_season_31 rfl (by decide) ?_
    exact ag_iret dX7_season_32 rfl rfl
  refine ag_iload_3 (q := 27) dX7_season_26 rfl ?_
  refine ag_iconst (q := 28) (v := 1) dX7_season_27 rfl (by decide) ?_
  refine ag_icmp_le (tgt := 33) (q := 31) dX7_season_28 rfl rfl ?_ ?_
  · refine ag_aload_0 (q := 34) dX7_season_33 rfl ?_
    refine ag_getR (q := 37) dX7_season_34 rfl fl7_32 (Nat.lt_of_lt_of_le (by decide : 0 < NC) hN) (congrArg Prod.fst s_0) rfl r_0_3 ?_
    refine ag_aload_0 (q := 38) dX7_season_37 rfl ?_
    refine ag_getR (q := 41) dX7_season_38 rfl fl7_28 (Nat.lt_of_lt_of_le (by decide : 0 < NC) hN) (congrArg Prod.fst s_0) rfl r_0_2 ?_
    refine ag_callV_mU (q := 44) (av := [.ref _]) (rest := []) dX7_season_41 rfl lk7_162 (C_X2_copyFrom hN 19 (by decide) 14 (by decide) _) (by decide) (Nat.le_of_ble_eq_true rfl) (Nat.lt_of_lt_of_le (by decide : 19 < NC) hN) (congrArg Prod.fst s_19) (by decide) (fun _ => rfl) (Nat.le_of_ble_eq_true rfl) rfl (fun r41 s41 e41 => ?_)
    refine ag_iconst (q := 45) (v := 0) dX7_season_44 rfl (by decide) ?_
    refine ag_istore_4 (q := 47) dX7_season_45 rfl (Nat.le_of_ble_eq_true rfl) rfl ?_
    exact A_X7_season_b47 K hN   FU a1 a2 a3 (0 : Int32) s41
  refine ag_iconst (q := 32) (v := -1) dX7_season_31 rfl (by decide) ?_
  exact ag_iret dX7_season_32 rfl rfl
theorem C_X7_season {N : Nat} (hN : NC ≤ N) (a1 : Int32) (a2 : Int32) (a3 : Int32) (σ : Sg) : ∀ r s', J_X7_season a1 a2 a3 σ = some (r, s') → AMc yX7_season mX7_season [.ref 0, .int a1, .int a2, .int a3] N R0 σ (some (.int r), N, R0, s') := fun r s' e => AMc.of (L := [some (.ref 0), some (.int a1), some (.int a2), some (.int a3), none, none, none]) (by decide) rfl (fun _ => rfl) (fun _ => Nat.le_of_ble_eq_true rfl) (Nat.le_refl _) (fun K => A_X7_season K hN a1 a2 a3 σ _ e (Nat.le_refl _))
def J_X7_keep  (σ : Sg) : Option (Int32 × Sg) :=
  (if (σ 0 8) < (2 : Int32) then (bd1 (J_X4_get 68 (σ 0 8) σ) fun r19 => (bd2 (J_X2_copyFrom r19 14 σ) fun r26 s26 => (some (((up s26 0 8 ((s26 0 8) + (1 : Int32))) 0 8), (up s26 0 8 ((s26 0 8) + (1 : Int32))))))) else (some ((-3 : Int32), σ)))
set_option maxHeartbeats 4000000 in
theorem A_X7_keep (K : KT) {N : Nat} (hN : NC ≤ N)  (σ : Sg) : AG K mX7_keep N (fun a : Int32 × Sg => (some (.int a.1), N, R0, a.2)) (J_X7_keep  σ) 0 [some (.ref 0)] [] σ := by
  unfold J_X7_keep
  refine ag_aload_0 (q := 1) dX7_keep_0 rfl ?_
  refine ag_getI (q := 4) dX7_keep_1 rfl fl7_65 (Nat.lt_of_lt_of_le (by decide : 0 < NC) hN) (congrArg Prod.fst s_0) rfl ?_
  refine ag_iconst (q := 5) (v := 2) dX7_keep_4 rfl (by decide) ?_
  refine ag_icmp_lt (tgt := 11) (q := 8) dX7_keep_5 rfl rfl ?_ ?_
  · refine ag_aload_0 (q := 12) dX7_keep_11 rfl ?_
    refine ag_getR (q := 15) dX7_keep_12 rfl fl7_47 (Nat.lt_of_lt_of_le (by decide : 0 < NC) hN) (congrArg Prod.fst s_0) rfl r_0_5 ?_
    refine ag_aload_0 (q := 16) dX7_keep_15 rfl ?_
    refine ag_getI (q := 19) dX7_keep_16 rfl fl7_65 (Nat.lt_of_lt_of_le (by decide : 0 < NC) hN) (congrArg Prod.fst s_0) rfl ?_
    refine ag_callV_pR (q := 22) (av := [.int _]) (rest := []) dX7_keep_19 rfl lk7_226 (C_X4_get hN 68 (by decide) (σ 0 8) _) (by decide) (Nat.le_of_ble_eq_true rfl) (Nat.lt_of_lt_of_le (by decide : 68 < NC) hN) (congrArg Prod.fst s_68) (by decide) (fun _ => rfl) (Nat.le_of_ble_eq_true rfl) rfl (fun r19 e19 => ?_)
    refine ag_aload_0 (q := 23) dX7_keep_22 rfl ?_
    refine ag_getR (q := 26) dX7_keep_23 rfl fl7_28 (Nat.lt_of_lt_of_le (by decide : 0 < NC) hN) (congrArg Prod.fst s_0) rfl r_0_2 ?_
    refine ag_callV_mU (q := 29) (av := [.ref _]) (rest := []) dX7_keep_26 rfl lk7_162 (C_X2_copyFrom hN r19 (G_X4_get (by decide) e19) 14 (by decide) _) (by decide) (Nat.le_of_ble_eq_true rfl) (nlt (mlt (G_X4_get (by decide) e19)) hN) (mS (G_X4_get (by decide) e19)) (by decide) (fun _ => rfl) (Nat.le_of_ble_eq_true rfl) rfl (fun r26 s26 e26 => ?_)
    refine ag_aload_0 (q := 30) dX7_keep_29 rfl ?_
    refine ag_dup (q := 31) dX7_keep_30 rfl rfl ?_
    refine ag_getI (q := 34) dX7_keep_31 rfl fl7_65 (Nat.lt_of_lt_of_le (by decide : 0 < NC) hN) (congrArg Prod.fst s_0) rfl ?_
    refine ag_iconst (q := 35) (v := 1) dX7_keep_34 rfl (by decide) ?_
    refine ag_iadd (q := 36) dX7_keep_35 rfl ?_
    refine ag_putI (q := 39) dX7_keep_36 rfl fl7_65 (Nat.lt_of_lt_of_le (by decide : 0 < NC) hN) (congrArg Prod.fst s_0) rfl ?_
    refine ag_aload_0 (q := 40) dX7_keep_39 rfl ?_
    refine ag_getI (q := 43) dX7_keep_40 rfl fl7_65 (Nat.lt_of_lt_of_le (by decide : 0 < NC) hN) (congrArg Prod.fst s_0) rfl ?_
    exact ag_iret dX7_keep_43 rfl rfl
  refine ag_bipush (q := 10) (v := -3) dX7_keep_8 rfl (by decide) ?_
  exact ag_iret dX7_keep_10 rfl rfl
theorem C_X7_keep {N : Nat} (hN : NC ≤ N)  (σ : Sg) : ∀ r s', J_X7_keep  σ = some (r, s') → AMc yX7_keep mX7_keep [.ref 0] N R0 σ (some (.int r), N, R0, s') := fun r s' e => AMc.of (L := [some (.ref 0)]) (by decide) rfl (fun _ => rfl) (fun _ => Nat.le_of_ble_eq_true rfl) (Nat.le_refl _) (fun K => A_X7_keep K hN  σ _ e (Nat.le_refl _))
def J_X7_back  (σ : Sg) : Option (Int32 × Sg) :=
  (if (1 : Int32) ≤ (σ 0 8) then (bd1 (J_X4_get 68 ((up σ 0 8 ((σ 0 8) - (1 : Int32))) 0 8) (up σ 0 8 ((σ 0 8) - (1 : Int32)))) fun r33 => (bd2 (J_X2_copyFrom 14 r33 (up σ 0 8 ((σ 0 8) - (1 : Int32)))) fun r36 s36 => (some (((up s36 24 3 (0 : Int32)) 0 8), (up s36 24 3 (0 : Int32)))))) else (some ((-2 : Int32), σ)))
set_option maxHeartbeats 4000000 in
theorem A_X7_back (K : KT) {N : Nat} (hN : NC ≤ N)  (σ : Sg) : AG K mX7_back N (fun a : Int32 × Sg => (some (.int a.1), N, R0, a.2)) (J_X7_back  σ) 0 [some (.ref 0)] [] σ := by
  unfold J_X7_back
  refine ag_aload_0 (q := 1) dX7_back_0 rfl ?_
  refine ag_getI (q := 4) dX7_back_1 rfl fl7_65 (Nat.lt_of_lt_of_le (by decide : 0 < NC) hN) (congrArg Prod.fst s_0) rfl ?_
  refine ag_iconst (q := 5) (v := 1) dX7_back_4 rfl (by decide) ?_
  refine ag_icmp_ge (tgt := 11) (q := 8) dX7_back_5 rfl rfl ?_ ?_
  · refine ag_aload_0 (q := 12) dX7_back_11 rfl ?_
    refine ag_dup (q := 13) dX7_back_12 rfl rfl ?_
    refine ag_getI (q := 16) dX7_back_13 rfl fl7_65 (Nat.lt_of_lt_of_le (by decide : 0 < NC) hN) (congrArg Prod.fst s_0) rfl ?_
    refine ag_iconst (q := 17) (v := 1) dX7_back_16 rfl (by decide) ?_
    refine ag_isub (q := 18) dX7_back_17 rfl ?_
    refine ag_putI (q := 21) dX7_back_18 rfl fl7_65 (Nat.lt_of_lt_of_le (by decide : 0 < NC) hN) (congrArg Prod.fst s_0) rfl ?_
    refine ag_aload_0 (q := 22) dX7_back_21 rfl ?_
    refine ag_getR (q := 25) dX7_back_22 rfl fl7_28 (Nat.lt_of_lt_of_le (by decide : 0 < NC) hN) (congrArg Prod.fst s_0) rfl r_0_2 ?_
    refine ag_aload_0 (q := 26) dX7_back_25 rfl ?_
    refine ag_getR (q := 29) dX7_back_26 rfl fl7_47 (Nat.lt_of_lt_of_le (by decide : 0 < NC) hN) (congrArg Prod.fst s_0) rfl r_0_5 ?_
    refine ag_aload_0 (q := 30) dX7_back_29 rfl ?_
    refine ag_getI (q := 33) dX7_back_30 rfl fl7_65 (Nat.lt_of_lt_of_le (by decide : 0 < NC) hN) (congrArg Prod.fst s_0) rfl ?_
    refine ag_callV_pR (q := 36) (av := [.int _]) (rest := [.ref _]) dX7_back_33 rfl lk7_226 (C_X4_get hN 68 (by decide) ((up σ 0 8 ((σ 0 8) - (1 : Int32))) 0 8) _) (by decide) (Nat.le_of_ble_eq_true rfl) (Nat.lt_of_lt_of_le (by decide : 68 < NC) hN) (congrArg Prod.fst s_68) (by decide) (fun _ => rfl) (Nat.le_of_ble_eq_true rfl) rfl (fun r33 e33 => ?_)
    refine ag_callV_mU (q := 39) (av := [.ref _]) (rest := []) dX7_back_36 rfl lk7_162 (C_X2_copyFrom hN 14 (by decide) r33 (G_X4_get (by decide) e33) _) (by decide) (Nat.le_of_ble_eq_true rfl) (Nat.lt_of_lt_of_le (by decide : 14 < NC) hN) (congrArg Prod.fst s_14) (by decide) (fun _ => rfl) (Nat.le_of_ble_eq_true rfl) rfl (fun r36 s36 e36 => ?_)
    refine ag_aload_0 (q := 40) dX7_back_39 rfl ?_
    refine ag_getR (q := 43) dX7_back_40 rfl fl7_38 (Nat.lt_of_lt_of_le (by decide : 0 < NC) hN) (congrArg Prod.fst s_0) rfl r_0_4 ?_
    refine ag_iconst (q := 44) (v := 0) dX7_back_43 rfl (by decide) ?_
    refine ag_putI (q := 47) dX7_back_44 rfl fl7_155 (Nat.lt_of_lt_of_le (by decide : 24 < NC) hN) (congrArg Prod.fst s_24) rfl ?_
    refine ag_aload_0 (q := 48) dX7_back_47 rfl ?_
    refine ag_getI (q := 51) dX7_back_48 rfl fl7_65 (Nat.lt_of_lt_of_le (by decide : 0 < NC) hN) (congrArg Prod.fst s_0) rfl ?_
    exact ag_iret dX7_back_51 rfl rfl
  refine ag_bipush (q := 10) (v := -2) dX7_back_8 rfl (by decide) ?_
  exact ag_iret dX7_back_10 rfl rfl
theorem C_X7_back {N : Nat} (hN : NC ≤ N)  (σ : Sg) : ∀ r s', J_X7_back  σ = some (r, s') → AMc yX7_back mX7_back [.ref 0] N R0 σ (some (.int r), N, R0, s') := fun r s' e => AMc.of (L := [some (.ref 0)]) (by decide) rfl (fun _ => rfl) (fun _ => Nat.le_of_ble_eq_true rfl) (Nat.le_refl _) (fun K => A_X7_back K hN  σ _ e (Nat.le_refl _))
def J_X7_count (a1 : Int32) (σ : Sg) : Option Int32 :=
  (if a1 = 0 then (some (σ 1 0)) else (if a1 = 1 then (some (σ 1 1)) else (if a1 = 2 then (some (σ 1 3)) else (if a1 = 3 then (some (σ 14 5)) else (if a1 = 4 then (bd1 (J_X2_staying 14 (0 : Int32) σ) fun r105 => (some r105)) else (if a1 = 5 then (bd1 (J_X2_staying 14 (1 : Int32) σ) fun r114 => (some r114)) else (if a1 = 6 then (bd1 (J_X2_worth 14 σ) fun r122 => (some (r122 + (100 : Int32)))) else (if a1 = 7 then (bd1 (J_X2_lost 14 σ) fun r133 => (some r133)) else (if a1 = 8 then (bd1 (J_X2_allGrass 14 σ) fun r141 => (some r141)) else (if a1 = 9 then (some (σ 1 5)) else (if a1 = 10 then (some (σ 24 3)) else (if a1 = 11 then (some (σ 0 8)) else (if a1 = 12 then (some (σ 4 3)) else (some (-1 : Int32)))))))))))))))
set_option maxHeartbeats 4000000 in
theorem A_X7_count (K : KT) {N : Nat} (hN : NC ≤ N) (a1 : Int32) (σ : Sg) : AG K mX7_count N (fun a : Int32 => (some (.int a), N, R0, σ)) (J_X7_count a1 σ) 0 [some (.ref 0), some (.int a1)] [] σ := by
  unfold J_X7_count
  refine ag_iload_1 (q := 1) dX7_count_0 rfl ?_
  refine ag_ite (fun z0 => ?_) (fun z0 => ?_)
  · refine ag_tin (k := 0) (q := 68) dX7_count_1 z0 (by decide) (by decide) rfl rfl ?_
    refine ag_aload_0 (q := 69) dX7_count_68 rfl ?_
    refine ag_getR (q := 72) dX7_count_69 rfl fl7_10 (Nat.lt_of_lt_of_le (by decide : 0 < NC) hN) (congrArg Prod.fst s_0) rfl r_0_0 ?_
    refine ag_getI (q := 75) dX7_count_72 rfl fl7_229 (Nat.lt_of_lt_of_le (by decide : 1 < NC) hN) (congrArg Prod.fst s_1) rfl ?_
    exact ag_iret dX7_count_75 rfl rfl
  refine ag_ite (fun z1 => ?_) (fun z1 => ?_)
  · refine ag_tin (k := 1) (q := 76) dX7_count_1 z1 (by decide) (by decide) rfl rfl ?_
    refine ag_aload_0 (q := 77) dX7_count_76 rfl ?_
    refine ag_getR (q := 80) dX7_count_77 rfl fl7_10 (Nat.lt_of_lt_of_le (by decide : 0 < NC) hN) (congrArg Prod.fst s_0) rfl r_0_0 ?_
    refine ag_getI (q := 83) dX7_count_80 rfl fl7_232 (Nat.lt_of_lt_of_le (by decide : 1 < NC) hN) (congrArg Prod.fst s_1) rfl ?_
    exact ag_iret dX7_count_83 rfl rfl
  refine ag_ite (fun z2 => ?_) (fun z2 => ?_)
  · refine ag_tin (k := 2) (q := 84) dX7_count_1 z2 (by decide) (by decide) rfl rfl ?_
    refine ag_aload_0 (q := 85) dX7_count_84 rfl ?_
    refine ag_getR (q := 88) dX7_count_85 rfl fl7_10 (Nat.lt_of_lt_of_le (by decide : 0 < NC) hN) (congrArg Prod.fst s_0) rfl r_0_0 ?_
    refine ag_getI (q := 91) dX7_count_88 rfl fl7_94 (Nat.lt_of_lt_of_le (by decide : 1 < NC) hN) (congrArg Prod.fst s_1) rfl ?_
    exact ag_iret dX7_count_91 rfl rfl
  refine ag_ite (fun z3 => ?_) (fun z3 => ?_)
  · refine ag_tin (k := 3) (q := 92) dX7_count_1 z3 (by decide) (by decide) rfl rfl ?_
    refine ag_aload_0 (q := 93) dX7_count_92 rfl ?_
    refine ag_getR (q := 96) dX7_count_93 rfl fl7_28 (Nat.lt_of_lt_of_le (by decide : 0 < NC) hN) (congrArg Prod.fst s_0) rfl r_0_2 ?_
    refine ag_getI (q := 99) dX7_count_96 rfl fl7_152 (Nat.lt_of_lt_of_le (by decide : 14 < NC) hN) (congrArg Prod.fst s_14) rfl ?_
    exact ag_iret dX7_count_99 rfl rfl
  refine ag_ite (fun z4 => ?_) (fun z4 => ?_)
  · refine ag_tin (k := 4) (q := 100) dX7_count_1 z4 (by decide) (by decide) rfl rfl ?_
    refine ag_aload_0 (q := 101) dX7_count_100 rfl ?_
    refine ag_getR (q := 104) dX7_count_101 rfl fl7_28 (Nat.lt_of_lt_of_le (by decide : 0 < NC) hN) (congrArg Prod.fst s_0) rfl r_0_2 ?_
    refine ag_iconst (q := 105) (v := 0) dX7_count_104 rfl (by decide) ?_
    refine ag_callV_pI (q := 108) (av := [.int _]) (rest := []) dX7_count_105 rfl lk7_224 (C_X2_staying hN 14 (by decide) (0 : Int32) _) (by decide) (Nat.le_of_ble_eq_true rfl) (Nat.lt_of_lt_of_le (by decide : 14 < NC) hN) (congrArg Prod.fst s_14) (by decide) (fun _ => rfl) (Nat.le_of_ble_eq_true rfl) rfl (fun r105 e105 => ?_)
    exact ag_iret dX7_count_108 rfl rfl
  refine ag_ite (fun z5 => ?_) (fun z5 => ?_)
  · refine ag_tin (k := 5) (q := 109) dX7_count_1 z5 (by decide) (by decide) rfl rfl ?_
    refine ag_aload_0 (q := 110) dX7_count_109 rfl ?_
    refine ag_getR (q := 113) dX7_count_110 rfl fl7_28 (Nat.lt_of_lt_of_le (by decide : 0 < NC) hN) (congrArg Prod.fst s_0) rfl r_0_2 ?_
    refine ag_iconst (q := 114) (v := 1) dX7_count_113 rfl (by decide) ?_
    refine ag_callV_pI (q := 117) (av := [.int _]) (rest := []) dX7_count_114 rfl lk7_224 (C_X2_staying hN 14 (by decide) (1 : Int32) _) (by decide) (Nat.le_of_ble_eq_true rfl) (Nat.lt_of_lt_of_le (by decide : 14 < NC) hN) (congrArg Prod.fst s_14) (by decide) (fun _ => rfl) (Nat.le_of_ble_eq_true rfl) rfl (fun r114 e114 => ?_)
    exact ag_iret dX7_count_117 rfl rfl
  refine ag_ite (fun z6 => ?_) (fun z6 => ?_)
  · refine ag_tin (k := 6) (q := 118) dX7_count_1 z6 (by decide) (by decide) rfl rfl ?_
    refine ag_aload_0 (q := 119) dX7_count_118 rfl ?_
    refine ag_getR (q := 122) dX7_count_119 rfl fl7_28 (Nat.lt_of_lt_of_le (by decide : 0 < NC) hN) (congrArg Prod.fst s_0) rfl r_0_2 ?_
    refine ag_callV_pI (q := 125) (av := []) (rest := []) dX7_count_122 rfl lk7_221 (C_X2_worth hN 14 (by decide) _) (by decide) (Nat.le_of_ble_eq_true rfl) (Nat.lt_of_lt_of_le (by decide : 14 < NC) hN) (congrArg Prod.fst s_14) (by decide) (fun _ => rfl) (Nat.le_of_ble_eq_true rfl) rfl (fun r122 e122 => ?_)
    refine ag_bipush (q := 127) (v := 100) dX7_count_125 rfl (by decide) ?_
    refine ag_iadd (q := 128) dX7_count_127 rfl ?_
    exact ag_iret dX7_count_128 rfl rfl
  refine ag_ite (fun z7 => ?_) (fun z7 => ?_)
  · refine ag_tin (k := 7) (q := 129) dX7_count_1 z7 (by decide) (by decide) rfl rfl ?_
    refine ag_aload_0 (q := 130) dX7_count_129 rfl ?_
    refine ag_getR (q := 133) dX7_count_130 rfl fl7_28 (Nat.lt_of_lt_of_le (by decide : 0 < NC) hN) (congrArg Prod.fst s_0) rfl r_0_2 ?_
    refine ag_callV_pI (q := 136) (av := []) (rest := []) dX7_count_133 rfl lk7_139 (C_X2_lost hN 14 (by decide) _) (by decide) (Nat.le_of_ble_eq_true rfl) (Nat.lt_of_lt_of_le (by decide : 14 < NC) hN) (congrArg Prod.fst s_14) (by decide) (fun _ => rfl) (Nat.le_of_ble_eq_true rfl) rfl (fun r133 e133 => ?_)
    exact ag_iret dX7_count_136 rfl rfl
  refine ag_ite (fun z8 => ?_) (fun z8 => ?_)
  · refine ag_tin (k := 8) (q := 137) dX7_count_1 z8 (by decide) (by decide) rfl rfl ?_
    refine ag_aload_0 (q := 138) dX7_count_137 rfl ?_
    refine ag_getR (q := 141) dX7_count_138 rfl fl7_28 (Nat.lt_of_lt_of_le (by decide : 0 < NC) hN) (congrArg Prod.fst s_0) rfl r_0_2 ?_
    refine ag_callV_pI (q := 144) (av := []) (rest := []) dX7_count_141 rfl lk7_235 (C_X2_allGrass hN 14 (by decide) _) (by decide) (Nat.le_of_ble_eq_true rfl) (Nat.lt_of_lt_of_le (by decide : 14 < NC) hN) (congrArg Prod.fst s_14) (by decide) (fun _ => rfl) (Nat.le_of_ble_eq_true rfl) rfl (fun r141 e141 => ?_)
    exact ag_iret dX7_count_144 rfl rfl
  refine ag_ite (fun z9 => ?_) (fun z9 => ?_)
  · refine ag_tin (k := 9) (q := 145) dX7_count_1 z9 (by decide) (by decide) rfl rfl ?_
    refine ag_aload_0 (q := 146) dX7_count_145 rfl ?_
    refine ag_getR (q := 149) dX7_count_146 rfl fl7_10 (Nat.lt_of_lt_of_le (by decide : 0 < NC) hN) (congrArg Prod.fst s_0) rfl r_0_0 ?_
    refine ag_getI (q := 152) dX7_count_149 rfl fl7_238 (Nat.lt_of_lt_of_le (by decide : 1 < NC) hN) (congrArg Prod.fst s_1) rfl ?_
    exact ag_iret dX7_count_152 rfl rfl
  refine ag_ite (fun z10 => ?_) (fun z10 => ?_)
  · refine ag_tin (k := 10) (q := 153) dX7_count_1 z10 (by decide) (by decide) rfl rfl ?_
    refine ag_aload_0 (q := 154) dX7_count_153 rfl ?_
    refine ag_getR (q := 157) dX7_count_154 rfl fl7_38 (Nat.lt_of_lt_of_le (by decide : 0 < NC) hN) (congrArg Prod.fst s_0) rfl r_0_4 ?_
    refine ag_getI (q := 160) dX7_count_157 rfl fl7_155 (Nat.lt_of_lt_of_le (by decide : 24 < NC) hN) (congrArg Prod.fst s_24) rfl ?_
    exact ag_iret dX7_count_160 rfl rfl
  refine ag_ite (fun z11 => ?_) (fun z11 => ?_)
  · refine ag_tin (k := 11) (q := 161) dX7_count_1 z11 (by decide) (by decide) rfl rfl ?_
    refine ag_aload_0 (q := 162) dX7_count_161 rfl ?_
    refine ag_getI (q := 165) dX7_count_162 rfl fl7_65 (Nat.lt_of_lt_of_le (by decide : 0 < NC) hN) (congrArg Prod.fst s_0) rfl ?_
    exact ag_iret dX7_count_165 rfl rfl
  refine ag_ite (fun z12 => ?_) (fun z12 => ?_)
  · refine ag_tin (k := 12) (q := 166) dX7_count_1 z12 (by decide) (by decide) rfl rfl ?_
    refine ag_aload_0 (q := 167) dX7_count_166 rfl ?_
    refine ag_getR (q := 170) dX7_count_167 rfl fl7_19 (Nat.lt_of_lt_of_le (by decide : 0 < NC) hN) (congrArg Prod.fst s_0) rfl r_0_1 ?_
    refine ag_getI (q := 173) dX7_count_170 rfl fl7_89 (Nat.lt_of_lt_of_le (by decide : 4 < NC) hN) (congrArg Prod.fst s_4) rfl ?_
    exact ag_iret dX7_count_173 rfl rfl
  refine ag_tout (q := 174) dX7_count_1 (by have q0 := lv_neT z0 (by decide : (0 : Int32).toInt = 0); have q1 := lv_neT z1 (by decide : (1 : Int32).toInt = 1); have q2 := lv_neT z2 (by decide : (2 : Int32).toInt = 2); have q3 := lv_neT z3 (by decide : (3 : Int32).toInt = 3); have q4 := lv_neT z4 (by decide : (4 : Int32).toInt = 4); have q5 := lv_neT z5 (by decide : (5 : Int32).toInt = 5); have q6 := lv_neT z6 (by decide : (6 : Int32).toInt = 6); have q7 := lv_neT z7 (by decide : (7 : Int32).toInt = 7); have q8 := lv_neT z8 (by decide : (8 : Int32).toInt = 8); have q9 := lv_neT z9 (by decide : (9 : Int32).toInt = 9); have q10 := lv_neT z10 (by decide : (10 : Int32).toInt = 10); have q11 := lv_neT z11 (by decide : (11 : Int32).toInt = 11); have q12 := lv_neT z12 (by decide : (12 : Int32).toInt = 12); omega) rfl ?_
  refine ag_iconst (q := 175) (v := -1) dX7_count_174 rfl (by decide) ?_
  exact ag_iret dX7_count_175 rfl rfl
theorem C_X7_count {N : Nat} (hN : NC ≤ N) (a1 : Int32) (σ : Sg) : ∀ r, J_X7_count a1 σ = some r → AMc yX7_count mX7_count [.ref 0, .int a1] N R0 σ (some (.int r), N, R0, σ) := fun r e => AMc.of (L := [some (.ref 0), some (.int a1)]) (by decide) rfl (fun _ => rfl) (fun _ => Nat.le_of_ble_eq_true rfl) (Nat.le_refl _) (fun K => A_X7_count K hN a1 σ _ e (Nat.le_refl _))
