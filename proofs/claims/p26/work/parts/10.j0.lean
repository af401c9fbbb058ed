def J_X4_get (p : Nat) (a1 : Int32) (σ : Sg) : Option Nat :=
  (if a1 < 0 then (some (p + 1)) else (if (Int32.ofNat (pln p)) ≤ a1 then (some (p + 1)) else (if inb a1 (pln p) = true then (some (pm p a1.toNatClampNeg)) else none)))
set_option maxHeartbeats 4000000 in
theorem A_X4_get (K : KT) {N : Nat} (hN : NC ≤ N) (p : Nat) (hp : isP p = true) (a1 : Int32) (σ : Sg) : AG K mX4_get N (fun a : Nat => (some (.ref a), N, R0, σ)) (J_X4_get p a1 σ) 0 [some (.ref p), some (.int a1), none] [] σ := by
  unfold J_X4_get
  refine ag_iload_1 (q := 1) dX4_get_0 rfl ?_
  refine ag_if_lt (tgt := 22) (q := 4) dX4_get_1 rfl rfl ?_ ?_
  · refine ag_aload_0 (q := 23) dX4_get_22 rfl ?_
    refine ag_getR (q := 26) dX4_get_23 rfl fl4_12 (nlt (plt hp) hN) (pS hp) rfl (pR0 hp) ?_
    refine ag_astore_2 (q := 27) dX4_get_26 rfl (Nat.le_of_ble_eq_true rfl) rfl ?_
    refine ag_aload_2 (q := 28) dX4_get_27 rfl ?_
    refine ag_ifnn (q := 38) dX4_get_28 rfl ?_
    refine ag_aload_2 (q := 39) dX4_get_38 rfl ?_
    exact ag_aret dX4_get_39 rfl rfl
  refine ag_iload_1 (q := 5) dX4_get_4 rfl ?_
  refine ag_aload_0 (q := 6) dX4_get_5 rfl ?_
  refine ag_getR (q := 9) dX4_get_6 rfl fl4_18 (nlt (plt hp) hN) (pS hp) rfl (pR1 hp) ?_
  refine ag_alen (q := 10) dX4_get_9 rfl (nlt (plt6 hp) hN) (pA hp) (Or.inr rfl) rfl ?_
  refine ag_icmp_ge (tgt := 22) (q := 13) dX4_get_10 rfl rfl ?_ ?_
  · refine ag_aload_0 (q := 23) dX4_get_22 rfl ?_
    refine ag_getR (q := 26) dX4_get_23 rfl fl4_12 (nlt (plt hp) hN) (pS hp) rfl (pR0 hp) ?_
    refine ag_astore_2 (q := 27) dX4_get_26 rfl (Nat.le_of_ble_eq_true rfl) rfl ?_
    refine ag_aload_2 (q := 28) dX4_get_27 rfl ?_
    refine ag_ifnn (q := 38) dX4_get_28 rfl ?_
    refine ag_aload_2 (q := 39) dX4_get_38 rfl ?_
    exact ag_aret dX4_get_39 rfl rfl
  refine ag_aload_0 (q := 14) dX4_get_13 rfl ?_
  refine ag_getR (q := 17) dX4_get_14 rfl fl4_18 (nlt (plt hp) hN) (pS hp) rfl (pR1 hp) ?_
  refine ag_iload_1 (q := 18) dX4_get_17 rfl ?_
  refine ag_aald (q := 19) dX4_get_18 rfl (nlt (plt6 hp) hN) (pA hp) (fun z => pRA hp z) (fun z18 => ?_)
  refine ag_goto (q := 26) dX4_get_19 rfl ?_
  refine ag_astore_2 (q := 27) dX4_get_26 rfl (Nat.le_of_ble_eq_true rfl) rfl ?_
  refine ag_aload_2 (q := 28) dX4_get_27 rfl ?_
  refine ag_ifnn (q := 38) dX4_get_28 rfl ?_
  refine ag_aload_2 (q := 39) dX4_get_38 rfl ?_
  exact ag_aret dX4_get_39 rfl rfl
theorem C_X4_get {N : Nat} (hN : NC ≤ N) (p : Nat) (hp : isP p = true) (a1 : Int32) (σ : Sg) : ∀ r, J_X4_get p a1 σ = some r → AMc yX4_get mX4_get [.ref p, .int a1] N R0 σ (some (.ref r), N, R0, σ) := fun r e => AMc.of (L := [some (.ref p), some (.int a1), none]) (by decide) rfl (fun _ => rfl) (fun _ => Nat.le_of_ble_eq_true rfl) (Nat.le_refl _) (fun K => A_X4_get K hN p hp a1 σ _ e (Nat.le_refl _))
theorem G_X4_get {p : Nat} (hp : isP p = true) {a : Int32} {σ : Sg} {r : Nat} (e : J_X4_get p a σ = some r) : isM r = true := by
  unfold J_X4_get at e
  repeat' split at e
  all_goals first | (cases e; exact pM0 hp) | (cases e; exact pMi hp (by assumption)) | cases e
def J_X2_copyFrom (c : Nat) (a1 : Nat) (σ : Sg) : Option (Unit × Sg) :=
  (some ((), (up (upc (upc (upc (upc σ (c + 1) (a1 + 1)) (c + 2) (a1 + 2)) (c + 3) (a1 + 3)) (c + 4) (a1 + 4)) c 5 ((upc (upc (upc (upc σ (c + 1) (a1 + 1)) (c + 2) (a1 + 2)) (c + 3) (a1 + 3)) (c + 4) (a1 + 4)) a1 5))))
set_option maxHeartbeats 4000000 in
theorem A_X2_copyFrom (K : KT) {N : Nat} (hN : NC ≤ N) (c : Nat) (hc : isM c = true) (a1 : Nat) (ha1 : isM a1 = true) (σ : Sg) : AG K mX2_copyFrom N (fun a : Unit × Sg => (none, N, R0, a.2)) (J_X2_copyFrom c a1 σ) 0 [some (.ref c), some (.ref a1)] [] σ := by
  unfold J_X2_copyFrom
  refine ag_aload_1 (q := 1) dX2_copyFrom_0 rfl ?_
  refine ag_getR (q := 4) dX2_copyFrom_1 rfl fl2_9 (nlt (mlt ha1) hN) (mS ha1) rfl (mR1 ha1) ?_
  refine ag_iconst (q := 5) (v := 0) dX2_copyFrom_4 rfl (by decide) ?_
  refine ag_aload_0 (q := 6) dX2_copyFrom_5 rfl ?_
  refine ag_getR (q := 9) dX2_copyFrom_6 rfl fl2_9 (nlt (mlt hc) hN) (mS hc) rfl (mR1 hc) ?_
  refine ag_iconst (q := 10) (v := 0) dX2_copyFrom_9 rfl (by decide) ?_
  refine ag_bipush (q := 12) (v := 36) dX2_copyFrom_10 rfl (by decide) ?_
  refine ag_acopy (q := 15) dX2_copyFrom_12 rfl kk2_32 (nlt (mlt1 ha1) hN) (nlt (mlt1 hc) hN) (mA1 ha1) (mA1 hc) rfl rfl (by decide) (by decide) (by decide) (Nat.le_of_ble_eq_true rfl) ?_
  refine ag_aload_1 (q := 16) dX2_copyFrom_15 rfl ?_
  refine ag_getR (q := 19) dX2_copyFrom_16 rfl fl2_15 (nlt (mlt ha1) hN) (mS ha1) rfl (mR2 ha1) ?_
  refine ag_iconst (q := 20) (v := 0) dX2_copyFrom_19 rfl (by decide) ?_
  refine ag_aload_0 (q := 21) dX2_copyFrom_20 rfl ?_
  refine ag_getR (q := 24) dX2_copyFrom_21 rfl fl2_15 (nlt (mlt hc) hN) (mS hc) rfl (mR2 hc) ?_
  refine ag_iconst (q := 25) (v := 0) dX2_copyFrom_24 rfl (by decide) ?_
  refine ag_bipush (q := 27) (v := 8) dX2_copyFrom_25 rfl (by decide) ?_
  refine ag_acopy (q := 30) dX2_copyFrom_27 rfl kk2_32 (nlt (mlt2 ha1) hN) (nlt (mlt2 hc) hN) (mA2 ha1) (mA2 hc) rfl rfl (by decide) (by decide) (by decide) (Nat.le_of_ble_eq_true rfl) ?_
  refine ag_aload_1 (q := 31) dX2_copyFrom_30 rfl ?_
  refine ag_getR (q := 34) dX2_copyFrom_31 rfl fl2_18 (nlt (mlt ha1) hN) (mS ha1) rfl (mR3 ha1) ?_
  refine ag_iconst (q := 35) (v := 0) dX2_copyFrom_34 rfl (by decide) ?_
  refine ag_aload_0 (q := 36) dX2_copyFrom_35 rfl ?_
  refine ag_getR (q := 39) dX2_copyFrom_36 rfl fl2_18 (nlt (mlt hc) hN) (mS hc) rfl (mR3 hc) ?_
  refine ag_iconst (q := 40) (v := 0) dX2_copyFrom_39 rfl (by decide) ?_
  refine ag_bipush (q := 42) (v := 8) dX2_copyFrom_40 rfl (by decide) ?_
  refine ag_acopy (q := 45) dX2_copyFrom_42 rfl kk2_32 (nlt (mlt3 ha1) hN) (nlt (mlt3 hc) hN) (mA3 ha1) (mA3 hc) rfl rfl (by decide) (by decide) (by decide) (Nat.le_of_ble_eq_true rfl) ?_
  refine ag_aload_1 (q := 46) dX2_copyFrom_45 rfl ?_
  refine ag_getR (q := 49) dX2_copyFrom_46 rfl fl2_21 (nlt (mlt ha1) hN) (mS ha1) rfl (mR4 ha1) ?_
  refine ag_iconst (q := 50) (v := 0) dX2_copyFrom_49 rfl (by decide) ?_
  refine ag_aload_0 (q := 51) dX2_copyFrom_50 rfl ?_
  refine ag_getR (q := 54) dX2_copyFrom_51 rfl fl2_21 (nlt (mlt hc) hN) (mS hc) rfl (mR4 hc) ?_
  refine ag_iconst (q := 55) (v := 0) dX2_copyFrom_54 rfl (by decide) ?_
  refine ag_bipush (q := 57) (v := 8) dX2_copyFrom_55 rfl (by decide) ?_
  refine ag_acopy (q := 60) dX2_copyFrom_57 rfl kk2_32 (nlt (mlt4 ha1) hN) (nlt (mlt4 hc) hN) (mA4 ha1) (mA4 hc) rfl rfl (by decide) (by decide) (by decide) (Nat.le_of_ble_eq_true rfl) ?_
  refine ag_aload_0 (q := 61) dX2_copyFrom_60 rfl ?_
  refine ag_aload_1 (q := 62) dX2_copyFrom_61 rfl ?_
  refine ag_getI (q := 65) dX2_copyFrom_62 rfl fl2_24 (nlt (mlt ha1) hN) (mS ha1) rfl ?_
  refine ag_putI (q := 68) dX2_copyFrom_65 rfl fl2_24 (nlt (mlt hc) hN) (mS hc) rfl ?_
  exact ag_vret dX2_copyFrom_68 rfl rfl
theorem C_X2_copyFrom {N : Nat} (hN : NC ≤ N) (c : Nat) (hc : isM c = true) (a1 : Nat) (ha1 : isM a1 = true) (σ : Sg) : ∀ r s', J_X2_copyFrom c a1 σ = some (r, s') → AMc yX2_copyFrom mX2_copyFrom [.ref c, .ref a1] N R0 σ (none, N, R0, s') := fun r s' e => AMc.of (L := [some (.ref c), some (.ref a1)]) (by decide) rfl (fun _ => rfl) (fun _ => Nat.le_of_ble_eq_true rfl) (Nat.le_refl _) (fun K => A_X2_copyFrom K hN c hc a1 ha1 σ _ e (Nat.le_refl _))
def J_X2_occupant_b9 (c : Nat) : Nat → Int32 → Int32 → Sg → Option Int32
  | 0, _, _, _ => none
  | k + 1, x1, x2, σ =>
    (if (σ (lnd c) 3) ≤ x2 then (some (-4 : Int32)) else (if (8 : Int32) ≤ x2 then (some (-4 : Int32)) else (if inb x2 8 = true then (if (σ (c + 2) x2.toNatClampNeg) = x1 then (some x2) else (J_X2_occupant_b9 c  k x1 (x2 + (1)) σ)) else none)))
set_option maxHeartbeats 4000000 in
theorem A_X2_occupant_b9 (K : KT) {N : Nat} (hN : NC ≤ N) (c : Nat) (hc : isM c = true) : ∀ (k : Nat) (x1 : Int32) (x2 : Int32) (σ : Sg), AG K mX2_occupant N (fun a : Int32 => (some (.int a), N, R0, σ)) (J_X2_occupant_b9 c  k x1 x2 σ) 9 [some (.ref c), some (.int x1), some (.int x2)] [] σ := by
  intro k
  induction k with
  | zero => intro x1 x2 σ; exact ag_none
  | succ k ih =>
    intro x1 x2 σ
    rw [J_X2_occupant_b9]
    refine ag_iload_2 (q := 10) dX2_occupant_9 rfl ?_
    refine ag_aload_0 (q := 11) dX2_occupant_10 rfl ?_
    refine ag_getR (q := 14) dX2_occupant_11 rfl fl2_28 (nlt (mlt hc) hN) (mS hc) rfl (mR0 hc) ?_
    refine ag_getI (q := 17) dX2_occupant_14 rfl fl2_43 (nlt (llt (lndL hc)) hN) (lS (lndL hc)) rfl ?_
    refine ag_icmp_ge (tgt := 44) (q := 20) dX2_occupant_17 rfl rfl ?_ ?_
    · refine ag_bipush (q := 46) (v := -4) dX2_occupant_44 rfl (by decide) ?_
      exact ag_iret dX2_occupant_46 rfl rfl
    refine ag_iload_2 (q := 21) dX2_occupant_20 rfl ?_
    refine ag_bipush (q := 23) (v := 8) dX2_occupant_21 rfl (by decide) ?_
    refine ag_icmp_ge (tgt := 44) (q := 26) dX2_occupant_23 rfl rfl ?_ ?_
    · refine ag_bipush (q := 46) (v := -4) dX2_occupant_44 rfl (by decide) ?_
      exact ag_iret dX2_occupant_46 rfl rfl
    refine ag_aload_0 (q := 27) dX2_occupant_26 rfl ?_
    refine ag_getR (q := 30) dX2_occupant_27 rfl fl2_15 (nlt (mlt hc) hN) (mS hc) rfl (mR2 hc) ?_
    refine ag_iload_2 (q := 31) dX2_occupant_30 rfl ?_
    refine ag_iald (q := 32) dX2_occupant_31 rfl (nlt (mlt2 hc) hN) (mA2 hc) ?_
    refine ag_iload_1 (q := 33) dX2_occupant_32 rfl ?_
    refine ag_icmp_ne (tgt := 38) (q := 36) dX2_occupant_33 rfl rfl ?_ ?_
    · refine ag_iinc_2 (q := 41) (d := (1)) dX2_occupant_38 rfl (Nat.le_of_ble_eq_true rfl) rfl (by decide) ?_
      refine ag_goto (q := 9) dX2_occupant_41 rfl ?_
      exact ih x1 (x2 + (1)) σ
    refine ag_iload_2 (q := 37) dX2_occupant_36 rfl ?_
    exact ag_iret dX2_occupant_37 rfl rfl
def J_X2_occupant (c : Nat) (a1 : Int32) (σ : Sg) : Option Int32 :=
  (if 0 ≤ a1 then (J_X2_occupant_b9 c  FU a1 (0 : Int32) σ) else (some (-4 : Int32)))
set_option maxHeartbeats 4000000 in
theorem A_X2_occupant (K : KT) {N : Nat} (hN : NC ≤ N) (c : Nat) (hc : isM c = true) (a1 : Int32) (σ : Sg) : AG K mX2_occupant N (fun a : Int32 => (some (.int a), N, R0, σ)) (J_X2_occupant c a1 σ) 0 [some (.ref c), some (.int a1), none] [] σ := by
  unfold J_X2_occupant
  refine ag_iload_1 (q := 1) dX2_occupant_0 rfl ?_
  refine ag_if_ge (tgt := 7) (q := 4) dX2_occupant_1 rfl rfl ?_ ?_
  · refine ag_iconst (q := 8) (v := 0) dX2_occupant_7 rfl (by decide) ?_
    refine ag_istore_2 (q := 9) dX2_occupant_8 rfl (Nat.le_of_ble_eq_true rfl) rfl ?_
    exact A_X2_occupant_b9 K hN c hc  FU a1 (0 : Int32) σ
  refine ag_bipush (q := 6) (v := -4) dX2_occupant_4 rfl (by decide) ?_
  exact ag_iret dX2_occupant_6 rfl rfl
theorem C_X2_occupant {N : Nat} (hN : NC ≤ N) (c : Nat) (hc : isM c = true) (a1 : Int32) (σ : Sg) : ∀ r, J_X2_occupant c a1 σ = some r → AMc yX2_occupant mX2_occupant [.ref c, .int a1] N R0 σ (some (.int r), N, R0, σ) := fun r e => AMc.of (L := [some (.ref c), some (.int a1), none]) (by decide) rfl (fun _ => rfl) (fun _ => Nat.le_of_ble_eq_true rfl) (Nat.le_refl _) (fun K => A_X2_occupant K hN c hc a1 σ _ e (Nat.le_refl _))
def J_X1_hasBeast (l : Nat) (a1 : Int32) (σ : Sg) : Option Int32 :=
  (if a1 < 0 then (some (0 : Int32)) else (if (σ l 3) ≤ a1 then (some (0 : Int32)) else (if (8 : Int32) ≤ a1 then (some (0 : Int32)) else (some (1 : Int32)))))
set_option maxHeartbeats 4000000 in
theorem A_X1_hasBeast (K : KT) {N : Nat} (hN : NC ≤ N) (l : Nat) (hl : isL l = true) (a1 : Int32) (σ : Sg) : AG K mX1_hasBeast N (fun a : Int32 => (some (.int a), N, R0, σ)) (J_X1_hasBeast l a1 σ) 0 [some (.ref l), some (.int a1)] [] σ := by
  unfold J_X1_hasBeast
  refine ag_iload_1 (q := 1) dX1_hasBeast_0 rfl ?_
  refine ag_if_lt (tgt := 22) (q := 4) dX1_hasBeast_1 rfl rfl ?_ ?_
  · refine ag_iconst (q := 23) (v := 0) dX1_hasBeast_22 rfl (by decide) ?_
    exact ag_zretK dX1_hasBeast_23 rfl (by decide) rfl
  refine ag_iload_1 (q := 5) dX1_hasBeast_4 rfl ?_
  refine ag_aload_0 (q := 6) dX1_hasBeast_5 rfl ?_
  refine ag_getI (q := 9) dX1_hasBeast_6 rfl fl1_21 (nlt (llt hl) hN) (lS hl) rfl ?_
  refine ag_icmp_ge (tgt := 22) (q := 12) dX1_hasBeast_9 rfl rfl ?_ ?_
  · refine ag_iconst (q := 23) (v := 0) dX1_hasBeast_22 rfl (by decide) ?_
    exact ag_zretK dX1_hasBeast_23 rfl (by decide) rfl
  refine ag_iload_1 (q := 13) dX1_hasBeast_12 rfl ?_
  refine ag_bipush (q := 15) (v := 8) dX1_hasBeast_13 rfl (by decide) ?_
  refine ag_icmp_ge (tgt := 22) (q := 18) dX1_hasBeast_15 rfl rfl ?_ ?_
  · refine ag_iconst (q := 23) (v := 0) dX1_hasBeast_22 rfl (by decide) ?_
    exact ag_zretK dX1_hasBeast_23 rfl (by decide) rfl
  refine ag_iconst (q := 19) (v := 1) dX1_hasBeast_18 rfl (by decide) ?_
  refine ag_goto (q := 23) dX1_hasBeast_19 rfl ?_
  exact ag_zretK dX1_hasBeast_23 rfl (by decide) rfl
theorem C_X1_hasBeast {N : Nat} (hN : NC ≤ N) (l : Nat) (hl : isL l = true) (a1 : Int32) (σ : Sg) : ∀ r, J_X1_hasBeast l a1 σ = some r → AMc yX1_hasBeast mX1_hasBeast [.ref l, .int a1] N R0 σ (some (.int r), N, R0, σ) := fun r e => AMc.of (L := [some (.ref l), some (.int a1)]) (by decide) rfl (fun _ => rfl) (fun _ => Nat.le_of_ble_eq_true rfl) (Nat.le_refl _) (fun K => A_X1_hasBeast K hN l hl a1 σ _ e (Nat.le_refl _))
def J_X2_kindOf (c : Nat) (a1 : Int32) (σ : Sg) : Option Int32 :=
  (if a1 < 0 then (some (-4 : Int32)) else (if (σ (lnd c) 3) ≤ a1 then (some (-4 : Int32)) else (if (8 : Int32) ≤ a1 then (some (-4 : Int32)) else (if inb a1 8 = true then (some (σ (c + 3) a1.toNatClampNeg)) else none))))
set_option maxHeartbeats 4000000 in
theorem A_X2_kindOf (K : KT) {N : Nat} (hN : NC ≤ N) (c : Nat) (hc : isM c = true) (a1 : Int32) (σ : Sg) : AG K mX2_kindOf N (fun a : Int32 => (some (.int a), N, R0, σ)) (J_X2_kindOf c a1 σ) 0 [some (.ref c), some (.int a1)] [] σ := by
  unfold J_X2_kindOf
  refine ag_iload_1 (q := 1) dX2_kindOf_0 rfl ?_
  refine ag_if_lt (tgt := 30) (q := 4) dX2_kindOf_1 rfl rfl ?_ ?_
  · refine ag_bipush (q := 32) (v := -4) dX2_kindOf_30 rfl (by decide) ?_
    exact ag_iret dX2_kindOf_32 rfl rfl
  refine ag_iload_1 (q := 5) dX2_kindOf_4 rfl ?_
  refine ag_aload_0 (q := 6) dX2_kindOf_5 rfl ?_
  refine ag_getR (q := 9) dX2_kindOf_6 rfl fl2_28 (nlt (mlt hc) hN) (mS hc) rfl (mR0 hc) ?_
  refine ag_getI (q := 12) dX2_kindOf_9 rfl fl2_43 (nlt (llt (lndL hc)) hN) (lS (lndL hc)) rfl ?_
  refine ag_icmp_ge (tgt := 30) (q := 15) dX2_kindOf_12 rfl rfl ?_ ?_
  · refine ag_bipush (q := 32) (v := -4) dX2_kindOf_30 rfl (by decide) ?_
    exact ag_iret dX2_kindOf_32 rfl rfl
  refine ag_iload_1 (q := 16) dX2_kindOf_15 rfl ?_
  refine ag_bipush (q := 18) (v := 8) dX2_kindOf_16 rfl (by decide) ?_
  refine ag_icmp_ge (tgt := 30) (q := 21) dX2_kindOf_18 rfl rfl ?_ ?_
  · refine ag_bipush (q := 32) (v := -4) dX2_kindOf_30 rfl (by decide) ?_
    exact ag_iret dX2_kindOf_32 rfl rfl
  refine ag_aload_0 (q := 22) dX2_kindOf_21 rfl ?_
  refine ag_getR (q := 25) dX2_kindOf_22 rfl fl2_18 (nlt (mlt hc) hN) (mS hc) rfl (mR3 hc) ?_
  refine ag_iload_1 (q := 26) dX2_kindOf_25 rfl ?_
  refine ag_iald (q := 27) dX2_kindOf_26 rfl (nlt (mlt3 hc) hN) (mA3 hc) ?_
  refine ag_goto (q := 32) dX2_kindOf_27 rfl ?_
  exact ag_iret dX2_kindOf_32 rfl rfl
theorem C_X2_kindOf {N : Nat} (hN : NC ≤ N) (c : Nat) (hc : isM c = true) (a1 : Int32) (σ : Sg) : ∀ r, J_X2_kindOf c a1 σ = some r → AMc yX2_kindOf mX2_kindOf [.ref c, .int a1] N R0 σ (some (.int r), N, R0, σ) := fun r e => AMc.of (L := [some (.ref c), some (.int a1)]) (by decide) rfl (fun _ => rfl) (fun _ => Nat.le_of_ble_eq_true rfl) (Nat.le_refl _) (fun K => A_X2_kindOf K hN c hc a1 σ _ e (Nat.le_refl _))
def J_X1_villageOf (l : Nat) (a1 : Int32) (σ : Sg) : Option Int32 :=
  (if a1 < 0 then (some (-4 : Int32)) else (if (σ l 3) ≤ a1 then (some (-4 : Int32)) else (if (8 : Int32) ≤ a1 then (some (-4 : Int32)) else (if inb a1 8 = true then (some (σ (l + 1) a1.toNatClampNeg)) else none))))
set_option maxHeartbeats 4000000 in
theorem A_X1_villageOf (K : KT) {N : Nat} (hN : NC ≤ N) (l : Nat) (hl : isL l = true) (a1 : Int32) (σ : Sg) : AG K mX1_villageOf N (fun a : Int32 => (some (.int a), N, R0, σ)) (J_X1_villageOf l a1 σ) 0 [some (.ref l), some (.int a1)] [] σ := by
  unfold J_X1_villageOf
  refine ag_iload_1 (q := 1) dX1_villageOf_0 rfl ?_
  refine ag_if_lt (tgt := 27) (q := 4) dX1_villageOf_1 rfl rfl ?_ ?_
  · refine ag_bipush (q := 29) (v := -4) dX1_villageOf_27 rfl (by decide) ?_
    exact ag_iret dX1_villageOf_29 rfl rfl
  refine ag_iload_1 (q := 5) dX1_villageOf_4 rfl ?_
  refine ag_aload_0 (q := 6) dX1_villageOf_5 rfl ?_
  refine ag_getI (q := 9) dX1_villageOf_6 rfl fl1_21 (nlt (llt hl) hN) (lS hl) rfl ?_
  refine ag_icmp_ge (tgt := 27) (q := 12) dX1_villageOf_9 rfl rfl ?_ ?_
  · refine ag_bipush (q := 29) (v := -4) dX1_villageOf_27 rfl (by decide) ?_
    exact ag_iret dX1_villageOf_29 rfl rfl
  refine ag_iload_1 (q := 13) dX1_villageOf_12 rfl ?_
  refine ag_bipush (q := 15) (v := 8) dX1_villageOf_13 rfl (by decide) ?_
  refine ag_icmp_ge (tgt := 27) (q := 18) dX1_villageOf_15 rfl rfl ?_ ?_
  · refine ag_bipush (q := 29) (v := -4) dX1_villageOf_27 rfl (by decide) ?_
    exact ag_iret dX1_villageOf_29 rfl rfl
  refine ag_aload_0 (q := 19) dX1_villageOf_18 rfl ?_
  refine ag_getR (q := 22) dX1_villageOf_19 rfl fl1_33 (nlt (llt hl) hN) (lS hl) rfl (lR1 hl) ?_
  refine ag_iload_1 (q := 23) dX1_villageOf_22 rfl ?_
  refine ag_iald (q := 24) dX1_villageOf_23 rfl (nlt (llt1 hl) hN) (lA1 hl) ?_
  refine ag_goto (q := 29) dX1_villageOf_24 rfl ?_
  exact ag_iret dX1_villageOf_29 rfl rfl
theorem C_X1_villageOf {N : Nat} (hN : NC ≤ N) (l : Nat) (hl : isL l = true) (a1 : Int32) (σ : Sg) : ∀ r, J_X1_villageOf l a1 σ = some r → AMc yX1_villageOf mX1_villageOf [.ref l, .int a1] N R0 σ (some (.int r), N, R0, σ) := fun r e => AMc.of (L := [some (.ref l), some (.int a1)]) (by decide) rfl (fun _ => rfl) (fun _ => Nat.le_of_ble_eq_true rfl) (Nat.le_refl _) (fun K => A_X1_villageOf K hN l hl a1 σ _ e (Nat.le_refl _))
def J_X1_turnsPawn (l : Nat) (a1 : Int32) (a2 : Int32) (σ : Sg) : Option Int32 :=
  (if a1 = 0 then (if (σ l 1) ≤ a2 then (some (0 : Int32)) else (some (1 : Int32))) else (if a2 < ((σ l 0) - (σ l 1)) then (some (0 : Int32)) else (some (1 : Int32))))
set_option maxHeartbeats 4000000 in
theorem A_X1_turnsPawn (K : KT) {N : Nat} (hN : NC ≤ N) (l : Nat) (hl : isL l = true) (a1 : Int32) (a2 : Int32) (σ : Sg) : AG K mX1_turnsPawn N (fun a : Int32 => (some (.int a), N, R0, σ)) (J_X1_turnsPawn l a1 a2 σ) 0 [some (.ref l), some (.int a1), some (.int a2)] [] σ := by
  unfold J_X1_turnsPawn
  refine ag_iload_1 (q := 1) dX1_turnsPawn_0 rfl ?_
  refine ag_if_ne (tgt := 20) (q := 4) dX1_turnsPawn_1 rfl rfl ?_ ?_
  · refine ag_iload_2 (q := 21) dX1_turnsPawn_20 rfl ?_
    refine ag_aload_0 (q := 22) dX1_turnsPawn_21 rfl ?_
    refine ag_getI (q := 25) dX1_turnsPawn_22 rfl fl1_9 (nlt (llt hl) hN) (lS hl) rfl ?_
    refine ag_aload_0 (q := 26) dX1_turnsPawn_25 rfl ?_
    refine ag_getI (q := 29) dX1_turnsPawn_26 rfl fl1_15 (nlt (llt hl) hN) (lS hl) rfl ?_
    refine ag_isub (q := 30) dX1_turnsPawn_29 rfl ?_
    refine ag_icmp_lt (tgt := 37) (q := 33) dX1_turnsPawn_30 rfl rfl ?_ ?_
    · refine ag_iconst (q := 38) (v := 0) dX1_turnsPawn_37 rfl (by decide) ?_
      exact ag_zretK dX1_turnsPawn_38 rfl (by decide) rfl
    refine ag_iconst (q := 34) (v := 1) dX1_turnsPawn_33 rfl (by decide) ?_
    refine ag_goto (q := 38) dX1_turnsPawn_34 rfl ?_
    exact ag_zretK dX1_turnsPawn_38 rfl (by decide) rfl
  refine ag_iload_2 (q := 5) dX1_turnsPawn_4 rfl ?_
  refine ag_aload_0 (q := 6) dX1_turnsPawn_5 rfl ?_
  refine ag_getI (q := 9) dX1_turnsPawn_6 rfl fl1_15 (nlt (llt hl) hN) (lS hl) rfl ?_
  refine ag_icmp_ge (tgt := 16) (q := 12) dX1_turnsPawn_9 rfl rfl ?_ ?_
  · refine ag_iconst (q := 17) (v := 0) dX1_turnsPawn_16 rfl (by decide) ?_
    refine ag_goto (q := 38) dX1_turnsPawn_17 rfl ?_
    exact ag_zretK dX1_turnsPawn_38 rfl (by decide) rfl
  refine ag_iconst (q := 13) (v := 1) dX1_turnsPawn_12 rfl (by decide) ?_
  refine ag_goto (q := 38) dX1_turnsPawn_13 rfl ?_
  exact ag_zretK dX1_turnsPawn_38 rfl (by decide) rfl
theorem C_X1_turnsPawn {N : Nat} (hN : NC ≤ N) (l : Nat) (hl : isL l = true) (a1 : Int32) (a2 : Int32) (σ : Sg) : ∀ r, J_X1_turnsPawn l a1 a2 σ = some r → AMc yX1_turnsPawn mX1_turnsPawn [.ref l, .int a1, .int a2] N R0 σ (some (.int r), N, R0, σ) := fun r e => AMc.of (L := [some (.ref l), some (.int a1), some (.int a2)]) (by decide) rfl (fun _ => rfl) (fun _ => Nat.le_of_ble_eq_true rfl) (Nat.le_refl _) (fun K => A_X1_turnsPawn K hN l hl a1 a2 σ _ e (Nat.le_refl _))
def J_X2_put (c : Nat) (a1 : Int32) (a2 : Int32) (a3 : Int32) (σ : Sg) : Option (Unit × Sg) :=
  (bd1 (J_X1_hasBeast (lnd c) a1 σ) fun r5 => (if r5 = 0 then (some ((), σ)) else (if inb a1 8 = true then (if inb a1 8 = true then (some ((), (up (up σ (c + 2) a1.toNatClampNeg a2) (c + 3) a1.toNatClampNeg a3))) else none) else none)))
set_option maxHeartbeats 4000000 in
theorem A_X2_put (K : KT) {N : Nat} (hN : NC ≤ N) (c : Nat) (hc : isM c = true) (a1 : Int32) (a2 : Int32) (a3 : Int32) (σ : Sg) : AG K mX2_put N (fun a : Unit × Sg => (none, N, R0, a.2)) (J_X2_put c a1 a2 a3 σ) 0 [some (.ref c), some (.int a1), some (.int a2), some (.int a3)] [] σ := by
  unfold J_X2_put
  refine ag_aload_0 (q := 1) dX2_put_0 rfl ?_
  refine ag_getR (q := 4) dX2_put_1 rfl fl2_28 (nlt (mlt hc) hN) (mS hc) rfl (mR0 hc) ?_
  refine ag_iload_1 (q := 5) dX2_put_4 rfl ?_
  refine ag_callV_pI (q := 8) (av := [.int _]) (rest := []) dX2_put_5 rfl lk2_54 (C_X1_hasBeast hN (lnd c) (lndL hc) a1 _) (by decide) (Nat.le_of_ble_eq_true rfl) (nlt (llt (lndL hc)) hN) (lS (lndL hc)) (by decide) (fun _ => rfl) (Nat.le_of_ble_eq_true rfl) rfl (fun r5 e5 => ?_)
  refine ag_if_eq (tgt := 25) (q := 11) dX2_put_8 rfl rfl ?_ ?_
  · exact ag_vret dX2_put_25 rfl rfl
  refine ag_aload_0 (q := 12) dX2_put_11 rfl ?_
  refine ag_getR (q := 15) dX2_put_12 rfl fl2_15 (nlt (mlt hc) hN) (mS hc) rfl (mR2 hc) ?_
  refine ag_iload_1 (q := 16) dX2_put_15 rfl ?_
  refine ag_iload_2 (q := 17) dX2_put_16 rfl ?_
  refine ag_iast (q := 18) dX2_put_17 rfl (nlt (mlt2 hc) hN) (mA2 hc) ?_
  refine ag_aload_0 (q := 19) dX2_put_18 rfl ?_
  refine ag_getR (q := 22) dX2_put_19 rfl fl2_18 (nlt (mlt hc) hN) (mS hc) rfl (mR3 hc) ?_
  refine ag_iload_1 (q := 23) dX2_put_22 rfl ?_
  refine ag_iload_3 (q := 24) dX2_put_23 rfl ?_
  refine ag_iast (q := 25) dX2_put_24 rfl (nlt (mlt3 hc) hN) (mA3 hc) ?_
  exact ag_vret dX2_put_25 rfl rfl
theorem C_X2_put {N : Nat} (hN : NC ≤ N) (c : Nat) (hc : isM c = true) (a1 : Int32) (a2 : Int32) (a3 : Int32) (σ : Sg) : ∀ r s', J_X2_put c a1 a2 a3 σ = some (r, s') → AMc yX2_put mX2_put [.ref c, .int a1, .int a2, .int a3] N R0 σ (none, N, R0, s') := fun r s' e => AMc.of (L := [some (.ref c), some (.int a1), some (.int a2), some (.int a3)]) (by decide) rfl (fun _ => rfl) (fun _ => Nat.le_of_ble_eq_true rfl) (Nat.le_refl _) (fun K => A_X2_put K hN c hc a1 a2 a3 σ _ e (Nat.le_refl _))
def J_X2_move_b58 (c : Nat) (x1 : Int32) (x2 : Int32) (w0 : Int32) (σ : Sg) : Option (Unit × Sg) :=
  (if w0 = 0 then (bd1 (J_X2_kindOf c x1 σ) fun r74 => (bd2 (J_X2_put c x1 x2 r74 σ) fun r77 s77 => (some ((), s77)))) else (bd2 (J_X2_put c x1 x2 (1 : Int32) σ) fun r77 s77 => (some ((), s77))))
set_option maxHeartbeats 4000000 in
theorem A_X2_move_b58 (K : KT) {N : Nat} (hN : NC ≤ N) (c : Nat) (hc : isM c = true) (x1 : Int32) (x2 : Int32) (w0 : Int32) (σ : Sg) : AG K mX2_move N (fun a : Unit × Sg => (none, N, R0, a.2)) (J_X2_move_b58 c  x1 x2 w0 σ) 58 [some (.ref c), some (.int x1), some (.int x2), none, none] [.int w0] σ := by
  unfold J_X2_move_b58
  refine ag_istore_4 (q := 60) dX2_move_58 rfl (Nat.le_of_ble_eq_true rfl) rfl ?_
  refine ag_aload_0 (q := 61) dX2_move_60 rfl ?_
  refine ag_iload_1 (q := 62) dX2_move_61 rfl ?_
  refine ag_iload_2 (q := 63) dX2_move_62 rfl ?_
  refine ag_iload_4 (q := 65) dX2_move_63 rfl ?_
  refine ag_if_eq (tgt := 72) (q := 68) dX2_move_65 rfl rfl ?_ ?_
  · refine ag_aload_0 (q := 73) dX2_move_72 rfl ?_
    refine ag_iload_1 (q := 74) dX2_move_73 rfl ?_
    refine ag_callV_pI (q := 77) (av := [.int _]) (rest := [.int _, .int _, .ref _]) dX2_move_74 rfl lk2_57 (C_X2_kindOf hN c hc x1 _) (by decide) (Nat.le_of_ble_eq_true rfl) (nlt (mlt hc) hN) (mS hc) (by decide) (fun _ => rfl) (Nat.le_of_ble_eq_true rfl) rfl (fun r74 e74 => ?_)
    refine ag_callV_mU (q := 80) (av := [.int _, .int _, .int _]) (rest := []) dX2_move_77 rfl lk2_110 (C_X2_put hN c hc x1 x2 r74 _) (by decide) (Nat.le_of_ble_eq_true rfl) (nlt (mlt hc) hN) (mS hc) (by decide) (fun _ => rfl) (Nat.le_of_ble_eq_true rfl) rfl (fun r77 s77 e77 => ?_)
    exact ag_vret dX2_move_80 rfl rfl
  refine ag_iconst (q := 69) (v := 1) dX2_move_68 rfl (by decide) ?_
  refine ag_goto (q := 77) dX2_move_69 rfl ?_
  refine ag_callV_mU (q := 80) (av := [.int _, .int _, .int _]) (rest := []) dX2_move_77 rfl lk2_110 (C_X2_put hN c hc x1 x2 (1 : Int32) _) (by decide) (Nat.le_of_ble_eq_true rfl) (nlt (mlt hc) hN) (mS hc) (by decide) (fun _ => rfl) (Nat.le_of_ble_eq_true rfl) rfl (fun r77 s77 e77 => ?_)
  exact ag_vret dX2_move_80 rfl rfl
def J_X2_move_b25 (c : Nat) (x1 : Int32) (x2 : Int32) (σ : Sg) : Option (Unit × Sg) :=
  (bd1 (J_X2_kindOf c x1 σ) fun r27 => (if r27 = (2 : Int32) then (bd1 (J_X1_villageOf (lnd c) x1 σ) fun r43 => (bd1 (J_X1_turnsPawn (lnd c) r43 x2 σ) fun r47 => (if r47 = 0 then (J_X2_move_b58 c  x1 x2 (0 : Int32) σ) else (J_X2_move_b58 c  x1 x2 (1 : Int32) σ)))) else (J_X2_move_b58 c  x1 x2 (0 : Int32) σ)))
set_option maxHeartbeats 4000000 in
theorem A_X2_move_b25 (K : KT) {N : Nat} (hN : NC ≤ N) (c : Nat) (hc : isM c = true) (x1 : Int32) (x2 : Int32) (σ : Sg) : AG K mX2_move N (fun a : Unit × Sg => (none, N, R0, a.2)) (J_X2_move_b25 c  x1 x2 σ) 25 [some (.ref c), some (.int x1), some (.int x2), none, none] [] σ := by
  unfold J_X2_move_b25
  refine ag_aload_0 (q := 26) dX2_move_25 rfl ?_
  refine ag_iload_1 (q := 27) dX2_move_26 rfl ?_
  refine ag_callV_pI (q := 30) (av := [.int _]) (rest := []) dX2_move_27 rfl lk2_57 (C_X2_kindOf hN c hc x1 _) (by decide) (Nat.le_of_ble_eq_true rfl) (nlt (mlt hc) hN) (mS hc) (by decide) (fun _ => rfl) (Nat.le_of_ble_eq_true rfl) rfl (fun r27 e27 => ?_)
  refine ag_iconst (q := 31) (v := 2) dX2_move_30 rfl (by decide) ?_
  refine ag_icmp_ne (tgt := 57) (q := 34) dX2_move_31 rfl rfl ?_ ?_
  · refine ag_iconst (q := 58) (v := 0) dX2_move_57 rfl (by decide) ?_
    exact A_X2_move_b58 K hN c hc  x1 x2 (0 : Int32) σ
  refine ag_aload_0 (q := 35) dX2_move_34 rfl ?_
  refine ag_getR (q := 38) dX2_move_35 rfl fl2_28 (nlt (mlt hc) hN) (mS hc) rfl (mR0 hc) ?_
  refine ag_aload_0 (q := 39) dX2_move_38 rfl ?_
  refine ag_getR (q := 42) dX2_move_39 rfl fl2_28 (nlt (mlt hc) hN) (mS hc) rfl (mR0 hc) ?_
  refine ag_iload_1 (q := 43) dX2_move_42 rfl ?_
  refine ag_callV_pI (q := 46) (av := [.int _]) (rest := [.ref _]) dX2_move_43 rfl lk2_63 (C_X1_villageOf hN (lnd c) (lndL hc) x1 _) (by decide) (Nat.le_of_ble_eq_true rfl) (nlt (llt (lndL hc)) hN) (lS (lndL hc)) (by decide) (fun _ => rfl) (Nat.le_of_ble_eq_true rfl) rfl (fun r43 e43 => ?_)
  refine ag_iload_2 (q := 47) dX2_move_46 rfl ?_
  refine ag_callV_pI (q := 50) (av := [.int _, .int _]) (rest := []) dX2_move_47 rfl lk2_107 (C_X1_turnsPawn hN (lnd c) (lndL hc) r43 x2 _) (by decide) (Nat.le_of_ble_eq_true rfl) (nlt (llt (lndL hc)) hN) (lS (lndL hc)) (by decide) (fun _ => rfl) (Nat.le_of_ble_eq_true rfl) rfl (fun r47 e47 => ?_)
  refine ag_if_eq (tgt := 57) (q := 53) dX2_move_50 rfl rfl ?_ ?_
  · refine ag_iconst (q := 58) (v := 0) dX2_move_57 rfl (by decide) ?_
    exact A_X2_move_b58 K hN c hc  x1 x2 (0 : Int32) σ
  refine ag_iconst (q := 54) (v := 1) dX2_move_53 rfl (by decide) ?_
  refine ag_goto (q := 58) dX2_move_54 rfl ?_
  exact A_X2_move_b58 K hN c hc  x1 x2 (1 : Int32) σ
def J_X2_move (c : Nat) (a1 : Int32) (a2 : Int32) (σ : Sg) : Option (Unit × Sg) :=
  (bd1 (J_X2_occupant c a2 σ) fun r2 => (bd1 (J_X1_hasBeast (lnd c) r2 σ) fun r11 => (if r11 = 0 then (J_X2_move_b25 c  a1 a2 σ) else (if inb r2 8 = true then (J_X2_move_b25 c  a1 a2 (up σ (c + 2) r2.toNatClampNeg (-4 : Int32))) else none))))
set_option maxHeartbeats 4000000 in
theorem A_X2_move (K : KT) {N : Nat} (hN : NC ≤ N) (c : Nat) (hc : isM c = true) (a1 : Int32) (a2 : Int32) (σ : Sg) : AG K mX2_move N (fun a : Unit × Sg => (none, N, R0, a.2)) (J_X2_move c a1 a2 σ) 0 [some (.ref c), some (.int a1), some (.int a2), none, none] [] σ := by
  unfold J_X2_move
  refine ag_aload_0 (q := 1) dX2_move_0 rfl ?_
  refine ag_iload_2 (q := 2) dX2_move_1 rfl ?_
  refine ag_callV_pI (q := 5) (av := [.int _]) (rest := []) dX2_move_2 rfl lk2_77 (C_X2_occupant hN c hc a2 _) (by decide) (Nat.le_of_ble_eq_true rfl) (nlt (mlt hc) hN) (mS hc) (by decide) (fun _ => rfl) (Nat.le_of_ble_eq_true rfl) rfl (fun r2 e2 => ?_)
  refine ag_istore_3 (q := 6) dX2_move_5 rfl (Nat.le_of_ble_eq_true rfl) rfl ?_
  refine ag_aload_0 (q := 7) dX2_move_6 rfl ?_
  refine ag_getR (q := 10) dX2_move_7 rfl fl2_28 (nlt (mlt hc) hN) (mS hc) rfl (mR0 hc) ?_
  refine ag_iload_3 (q := 11) dX2_move_10 rfl ?_
  refine ag_callV_pI (q := 14) (av := [.int _]) (rest := []) dX2_move_11 rfl lk2_54 (C_X1_hasBeast hN (lnd c) (lndL hc) r2 _) (by decide) (Nat.le_of_ble_eq_true rfl) (nlt (llt (lndL hc)) hN) (lS (lndL hc)) (by decide) (fun _ => rfl) (Nat.le_of_ble_eq_true rfl) rfl (fun r11 e11 => ?_)
  refine ag_if_eq (tgt := 25) (q := 17) dX2_move_14 rfl rfl ?_ ?_
  · refine ag_kill_3 ?_
    exact A_X2_move_b25 K hN c hc  a1 a2 σ
  refine ag_aload_0 (q := 18) dX2_move_17 rfl ?_
  refine ag_getR (q := 21) dX2_move_18 rfl fl2_15 (nlt (mlt hc) hN) (mS hc) rfl (mR2 hc) ?_
  refine ag_iload_3 (q := 22) dX2_move_21 rfl ?_
  refine ag_bipush (q := 24) (v := -4) dX2_move_22 rfl (by decide) ?_
  refine ag_iast (q := 25) dX2_move_24 rfl (nlt (mlt2 hc) hN) (mA2 hc) ?_
  refine ag_kill_3 ?_
  exact A_X2_move_b25 K hN c hc  a1 a2 (up σ (c + 2) r2.toNatClampNeg (-4 : Int32))
theorem C_X2_move {N : Nat} (hN : NC ≤ N) (c : Nat) (hc : isM c = true) (a1 : Int32) (a2 : Int32) (σ : Sg) : ∀ r s', J_X2_move c a1 a2 σ = some (r, s') → AMc yX2_move mX2_move [.ref c, .int a1, .int a2] N R0 σ (none, N, R0, s') := fun r s' e => AMc.of (L := [some (.ref c), some (.int a1), some (.int a2), none, none]) (by decide) rfl (fun _ => rfl) (fun _ => Nat.le_of_ble_eq_true rfl) (Nat.le_refl _) (fun K => A_X2_move K hN c hc a1 a2 σ _ e (Nat.le_refl _))
def J_X2_graze_b2 (c : Nat) : Nat → Int32 → Sg → Option (Unit × Sg)
  | 0, _, _ => none
  | k + 1, x1, σ =>
    (if (σ (lnd c) 3) ≤ x1 then (some ((), σ)) else (if (8 : Int32) ≤ x1 then (some ((), σ)) else (if inb x1 8 = true then (if (σ (c + 2) x1.toNatClampNeg) < 0 then (J_X2_graze_b2 c  k (x1 + (1)) σ) else (if (σ (c + 2) x1.toNatClampNeg) < (36 : Int32) then (if inb (σ (c + 2) x1.toNatClampNeg) 36 = true then (if (σ (c + 1) (σ (c + 2) x1.toNatClampNeg).toNatClampNeg) ≤ 0 then (if inb x1 8 = true then (if inb x1 8 = true then (if inb x1 8 = true then (if ((up σ (c + 4) x1.toNatClampNeg ((σ (c + 4) x1.toNatClampNeg) + (1 : Int32))) (c + 4) x1.toNatClampNeg) ≤ ((up σ (c + 4) x1.toNatClampNeg ((σ (c + 4) x1.toNatClampNeg) + (1 : Int32))) (lnd c) 5) then (if inb x1 8 = true then (J_X2_graze_b2 c  k (x1 + (1)) (up (up σ (c + 4) x1.toNatClampNeg ((σ (c + 4) x1.toNatClampNeg) + (1 : Int32))) (c + 2) x1.toNatClampNeg (σ (c + 2) x1.toNatClampNeg))) else none) else (if inb x1 8 = true then (J_X2_graze_b2 c  k (x1 + (1)) (up (up σ (c + 4) x1.toNatClampNeg ((σ (c + 4) x1.toNatClampNeg) + (1 : Int32))) (c + 2) x1.toNatClampNeg (-4 : Int32))) else none)) else none) else none) else none) else (if inb (σ (c + 2) x1.toNatClampNeg) 36 = true then (if inb (σ (c + 2) x1.toNatClampNeg) 36 = true then (if inb x1 8 = true then (J_X2_graze_b2 c  k (x1 + (1)) (up (up σ (c + 1) (σ (c + 2) x1.toNatClampNeg).toNatClampNeg ((σ (c + 1) (σ (c + 2) x1.toNatClampNeg).toNatClampNeg) - (1 : Int32))) (c + 4) x1.toNatClampNeg (0 : Int32))) else none) else none) else none)) else none) else (J_X2_graze_b2 c  k (x1 + (1)) σ))) else none)))
set_option maxHeartbeats 4000000 in
theorem A_X2_graze_b2 (K : KT) {N : Nat} (hN : NC ≤ N) (c : Nat) (hc : isM c = true) : ∀ (k : Nat) (x1 : Int32) (σ : Sg), AG K mX2_graze N (fun a : Unit × Sg => (none, N, R0, a.2)) (J_X2_graze_b2 c  k x1 σ) 2 [some (.ref c), some (.int x1), none] [] σ := by
  intro k
  induction k with
  | zero => intro x1 σ; exact ag_none
  | succ k ih =>
    intro x1 σ
    rw [J_X2_graze_b2]
    refine ag_iload_1 (q := 3) dX2_graze_2 rfl ?_
    refine ag_aload_0 (q := 4) dX2_graze_3 rfl ?_
    refine ag_getR (q := 7) dX2_graze_4 rfl fl2_28 (nlt (mlt hc) hN) (mS hc) rfl (mR0 hc) ?_
    refine ag_getI (q := 10) dX2_graze_7 rfl fl2_43 (nlt (llt (lndL hc)) hN) (lS (lndL hc)) rfl ?_
    refine ag_icmp_ge (tgt := 112) (q := 13) dX2_graze_10 rfl rfl ?_ ?_
    · exact ag_vret dX2_graze_112 rfl rfl
    refine ag_iload_1 (q := 14) dX2_graze_13 rfl ?_
    refine ag_bipush (q := 16) (v := 8) dX2_graze_14 rfl (by decide) ?_
    refine ag_icmp_ge (tgt := 112) (q := 19) dX2_graze_16 rfl rfl ?_ ?_
    · exact ag_vret dX2_graze_112 rfl rfl
    refine ag_aload_0 (q := 20) dX2_graze_19 rfl ?_
    refine ag_getR (q := 23) dX2_graze_20 rfl fl2_15 (nlt (mlt hc) hN) (mS hc) rfl (mR2 hc) ?_
    refine ag_iload_1 (q := 24) dX2_graze_23 rfl ?_
    refine ag_iald (q := 25) dX2_graze_24 rfl (nlt (mlt2 hc) hN) (mA2 hc) ?_
    refine ag_istore_2 (q := 26) dX2_graze_25 rfl (Nat.le_of_ble_eq_true rfl) rfl ?_
    refine ag_iload_2 (q := 27) dX2_graze_26 rfl ?_
    refine ag_if_lt (tgt := 106) (q := 30) dX2_graze_27 rfl rfl ?_ ?_
    · refine ag_iinc_1 (q := 109) (d := (1)) dX2_graze_106 rfl (Nat.le_of_ble_eq_true rfl) rfl (by decide) ?_
      refine ag_goto (q := 2) dX2_graze_109 rfl ?_
      refine ag_kill_2 ?_
      exact ih (x1 + (1)) σ
    refine ag_iload_2 (q := 31) dX2_graze_30 rfl ?_
    refine ag_bipush (q := 33) (v := 36) dX2_graze_31 rfl (by decide) ?_
    refine ag_icmp_lt (tgt := 39) (q := 36) dX2_graze_33 rfl rfl ?_ ?_
    · refine ag_aload_0 (q := 40) dX2_graze_39 rfl ?_
      refine ag_getR (q := 43) dX2_graze_40 rfl fl2_9 (nlt (mlt hc) hN) (mS hc) rfl (mR1 hc) ?_
      refine ag_iload_2 (q := 44) dX2_graze_43 rfl ?_
      refine ag_iald (q := 45) dX2_graze_44 rfl (nlt (mlt1 hc) hN) (mA1 hc) ?_
      refine ag_if_le (tgt := 68) (q := 48) dX2_graze_45 rfl rfl ?_ ?_
      · refine ag_aload_0 (q := 69) dX2_graze_68 rfl ?_
        refine ag_getR (q := 72) dX2_graze_69 rfl fl2_21 (nlt (mlt hc) hN) (mS hc) rfl (mR4 hc) ?_
        refine ag_iload_1 (q := 73) dX2_graze_72 rfl ?_
        refine ag_dup2 (q := 74) dX2_graze_73 rfl rfl rfl ?_
        refine ag_iald (q := 75) dX2_graze_74 rfl (nlt (mlt4 hc) hN) (mA4 hc) ?_
        refine ag_iconst (q := 76) (v := 1) dX2_graze_75 rfl (by decide) ?_
        refine ag_iadd (q := 77) dX2_graze_76 rfl ?_
        refine ag_iast (q := 78) dX2_graze_77 rfl (nlt (mlt4 hc) hN) (mA4 hc) ?_
        refine ag_aload_0 (q := 79) dX2_graze_78 rfl ?_
        refine ag_getR (q := 82) dX2_graze_79 rfl fl2_15 (nlt (mlt hc) hN) (mS hc) rfl (mR2 hc) ?_
        refine ag_iload_1 (q := 83) dX2_graze_82 rfl ?_
        refine ag_aload_0 (q := 84) dX2_graze_83 rfl ?_
        refine ag_getR (q := 87) dX2_graze_84 rfl fl2_21 (nlt (mlt hc) hN) (mS hc) rfl (mR4 hc) ?_
        refine ag_iload_1 (q := 88) dX2_graze_87 rfl ?_
        refine ag_iald (q := 89) dX2_graze_88 rfl (nlt (mlt4 hc) hN) (mA4 hc) ?_
        refine ag_aload_0 (q := 90) dX2_graze_89 rfl ?_
        refine ag_getR (q := 93) dX2_graze_90 rfl fl2_28 (nlt (mlt hc) hN) (mS hc) rfl (mR0 hc) ?_
        refine ag_getI (q := 96) dX2_graze_93 rfl fl2_130 (nlt (llt (lndL hc)) hN) (lS (lndL hc)) rfl ?_
        refine ag_icmp_le (tgt := 104) (q := 99) dX2_graze_96 rfl rfl ?_ ?_
        · refine ag_iload_2 (q := 105) dX2_graze_104 rfl ?_
          refine ag_iast (q := 106) dX2_graze_105 rfl (nlt (mlt2 hc) hN) (mA2 hc) ?_
          refine ag_iinc_1 (q := 109) (d := (1)) dX2_graze_106 rfl (Nat.le_of_ble_eq_true rfl) rfl (by decide) ?_
          refine ag_goto (q := 2) dX2_graze_109 rfl ?_
          refine ag_kill_2 ?_
          exact ih (x1 + (1)) (up (up σ (c + 4) x1.toNatClampNeg ((σ (c + 4) x1.toNatClampNeg) + (1 : Int32))) (c + 2) x1.toNatClampNeg (σ (c + 2) x1.toNatClampNeg))
        refine ag_bipush (q := 101) (v := -4) dX2_graze_99 rfl (by decide) ?_
        refine ag_goto (q := 105) dX2_graze_101 rfl ?_
        refine ag_iast (q := 106) dX2_graze_105 rfl (nlt (mlt2 hc) hN) (mA2 hc) ?_
        refine ag_iinc_1 (q := 109) (d := (1)) dX2_graze_106 rfl (Nat.le_of_ble_eq_true rfl) rfl (by decide) ?_
        refine ag_goto (q := 2) dX2_graze_109 rfl ?_
        refine ag_kill_2 ?_
        exact ih (x1 + (1)) (up (up σ (c + 4) x1.toNatClampNeg ((σ (c + 4) x1.toNatClampNeg) + (1 : Int32))) (c + 2) x1.toNatClampNeg (-4 : Int32))
      refine ag_aload_0 (q := 49) dX2_graze_48 rfl ?_
      refine ag_getR (q := 52) dX2_graze_49 rfl fl2_9 (nlt (mlt hc) hN) (mS hc) rfl (mR1 hc) ?_
      refine ag_iload_2 (q := 53) dX2_graze_52 rfl ?_
      refine ag_dup2 (q := 54) dX2_graze_53 rfl rfl rfl ?_
      refine ag_iald (q := 55) dX2_graze_54 rfl (nlt (mlt1 hc) hN) (mA1 hc) ?_
      refine ag_iconst (q := 56) (v := 1) dX2_graze_55 rfl (by decide) ?_
      refine ag_isub (q := 57) dX2_graze_56 rfl ?_
      refine ag_iast (q := 58) dX2_graze_57 rfl (nlt (mlt1 hc) hN) (mA1 hc) ?_
      refine ag_aload_0 (q := 59) dX2_graze_58 rfl ?_
      refine ag_getR (q := 62) dX2_graze_59 rfl fl2_21 (nlt (mlt hc) hN) (mS hc) rfl (mR4 hc) ?_
      refine ag_iload_1 (q := 63) dX2_graze_62 rfl ?_
      refine ag_iconst (q := 64) (v := 0) dX2_graze_63 rfl (by decide) ?_
      refine ag_iast (q := 65) dX2_graze_64 rfl (nlt (mlt4 hc) hN) (mA4 hc) ?_
      refine ag_goto (q := 106) dX2_graze_65 rfl ?_
      refine ag_iinc_1 (q := 109) (d := (1)) dX2_graze_106 rfl (Nat.le_of_ble_eq_true rfl) rfl (by decide) ?_
      refine ag_goto (q := 2) dX2_graze_109 rfl ?_
      refine ag_kill_2 ?_
      exact ih (x1 + (1)) (up (up σ (c + 1) (σ (c + 2) x1.toNatClampNeg).toNatClampNeg ((σ (c + 1) (σ (c + 2) x1.toNatClampNeg).toNatClampNeg) - (1 : Int32))) (c + 4) x1.toNatClampNeg (0 : Int32))
    refine ag_goto (q := 106) dX2_graze_36 rfl ?_
    refine ag_iinc_1 (q := 109) (d := (1)) dX2_graze_106 rfl (Nat.le_of_ble_eq_true rfl) rfl (by decide) ?_
    refine ag_goto (q := 2) dX2_graze_109 rfl ?_
    refine ag_kill_2 ?_
    exact ih (x1 + (1)) σ
def J_X2_graze (c : Nat) (σ : Sg) : Option (Unit × Sg) :=
  (J_X2_graze_b2 c  FU (0 : Int32) σ)
set_option maxHeartbeats 4000000 in
theorem A_X2_graze (K : KT) {N : Nat} (hN : NC ≤ N) (c : Nat) (hc : isM c = true) (σ : Sg) : AG K mX2_graze N (fun a : Unit × Sg => (none, N, R0, a.2)) (J_X2_graze c σ) 0 [some (.ref c), none, none] [] σ := by
  unfold J_X2_graze
  refine ag_iconst (q := 1) (v := 0) dX2_graze_0 rfl (by decide) ?_
  refine ag_istore_1 (q := 2) dX2_graze_1 rfl (Nat.le_of_ble_eq_true rfl) rfl ?_
  exact A_X2_graze_b2 K hN c hc  FU (0 : Int32) σ
theorem C_X2_graze {N : Nat} (hN : NC ≤ N) (c : Nat) (hc : isM c = true) (σ : Sg) : ∀ r s', J_X2_graze c σ = some (r, s') → AMc yX2_graze mX2_graze [.ref c] N R0 σ (none, N, R0, s') := fun r s' e => AMc.of (L := [some (.ref c), none, none]) (by decide) rfl (fun _ => rfl) (fun _ => Nat.le_of_ble_eq_true rfl) (Nat.le_refl _) (fun K => A_X2_graze K hN c hc σ _ e (Nat.le_refl _))
def J_X2_beginNextDay_b23 (c : Nat) : Nat → Int32 → Sg → Option (Unit × Sg)
  | 0, _, _ => none
  | k + 1, x1, σ =>
    (if (σ (lnd c) 0) ≤ x1 then (some ((), σ)) else (if (36 : Int32) ≤ x1 then (some ((), σ)) else (if inb x1 36 = true then (if (8 : Int32) ≤ (σ (c + 1) x1.toNatClampNeg) then (J_X2_beginNextDay_b23 c  k (x1 + (1)) σ) else (bd1 (J_X2_occupant c x1 σ) fun r53 => (if r53 = (-4 : Int32) then (if inb x1 36 = true then (if inb x1 36 = true then (J_X2_beginNextDay_b23 c  k (x1 + (1)) (up σ (c + 1) x1.toNatClampNeg ((σ (c + 1) x1.toNatClampNeg) + (1 : Int32)))) else none) else none) else (J_X2_beginNextDay_b23 c  k (x1 + (1)) σ)))) else none)))
set_option maxHeartbeats 4000000 in
theorem A_X2_beginNextDay_b23 (K : KT) {N : Nat} (hN : NC ≤ N) (c : Nat) (hc : isM c = true) : ∀ (k : Nat) (x1 : Int32) (σ : Sg), AG K mX2_beginNextDay N (fun a : Unit × Sg => (none, N, R0, a.2)) (J_X2_beginNextDay_b23 c  k x1 σ) 23 [some (.ref c), some (.int x1)] [] σ := by
  intro k
  induction k with
  | zero => intro x1 σ; exact ag_none
  | succ k ih =>
    intro x1 σ
    rw [J_X2_beginNextDay_b23]
    refine ag_iload_1 (q := 24) dX2_beginNextDay_23 rfl ?_
    refine ag_aload_0 (q := 25) dX2_beginNextDay_24 rfl ?_
    refine ag_getR (q := 28) dX2_beginNextDay_25 rfl fl2_28 (nlt (mlt hc) hN) (mS hc) rfl (mR0 hc) ?_
    refine ag_getI (q := 31) dX2_beginNextDay_28 rfl fl2_38 (nlt (llt (lndL hc)) hN) (lS (lndL hc)) rfl ?_
    refine ag_icmp_ge (tgt := 77) (q := 34) dX2_beginNextDay_31 rfl rfl ?_ ?_
    · exact ag_vret dX2_beginNextDay_77 rfl rfl
    refine ag_iload_1 (q := 35) dX2_beginNextDay_34 rfl ?_
    refine ag_bipush (q := 37) (v := 36) dX2_beginNextDay_35 rfl (by decide) ?_
    refine ag_icmp_ge (tgt := 77) (q := 40) dX2_beginNextDay_37 rfl rfl ?_ ?_
    · exact ag_vret dX2_beginNextDay_77 rfl rfl
    refine ag_aload_0 (q := 41) dX2_beginNextDay_40 rfl ?_
    refine ag_getR (q := 44) dX2_beginNextDay_41 rfl fl2_9 (nlt (mlt hc) hN) (mS hc) rfl (mR1 hc) ?_
    refine ag_iload_1 (q := 45) dX2_beginNextDay_44 rfl ?_
    refine ag_iald (q := 46) dX2_beginNextDay_45 rfl (nlt (mlt1 hc) hN) (mA1 hc) ?_
    refine ag_bipush (q := 48) (v := 8) dX2_beginNextDay_46 rfl (by decide) ?_
    refine ag_icmp_ge (tgt := 71) (q := 51) dX2_beginNextDay_48 rfl rfl ?_ ?_
    · refine ag_iinc_1 (q := 74) (d := (1)) dX2_beginNextDay_71 rfl (Nat.le_of_ble_eq_true rfl) rfl (by decide) ?_
      refine ag_goto (q := 23) dX2_beginNextDay_74 rfl ?_
      exact ih (x1 + (1)) σ
    refine ag_aload_0 (q := 52) dX2_beginNextDay_51 rfl ?_
    refine ag_iload_1 (q := 53) dX2_beginNextDay_52 rfl ?_
    refine ag_callV_pI (q := 56) (av := [.int _]) (rest := []) dX2_beginNextDay_53 rfl lk2_77 (C_X2_occupant hN c hc x1 _) (by decide) (Nat.le_of_ble_eq_true rfl) (nlt (mlt hc) hN) (mS hc) (by decide) (fun _ => rfl) (Nat.le_of_ble_eq_true rfl) rfl (fun r53 e53 => ?_)
    refine ag_bipush (q := 58) (v := -4) dX2_beginNextDay_56 rfl (by decide) ?_
    refine ag_icmp_ne (tgt := 71) (q := 61) dX2_beginNextDay_58 rfl rfl ?_ ?_
    · refine ag_iinc_1 (q := 74) (d := (1)) dX2_beginNextDay_71 rfl (Nat.le_of_ble_eq_true rfl) rfl (by decide) ?_
      refine ag_goto (q := 23) dX2_beginNextDay_74 rfl ?_
      exact ih (x1 + (1)) σ
    refine ag_aload_0 (q := 62) dX2_beginNextDay_61 rfl ?_
    refine ag_getR (q := 65) dX2_beginNextDay_62 rfl fl2_9 (nlt (mlt hc) hN) (mS hc) rfl (mR1 hc) ?_
    refine ag_iload_1 (q := 66) dX2_beginNextDay_65 rfl ?_
    refine ag_dup2 (q := 67) dX2_beginNextDay_66 rfl rfl rfl ?_
    refine ag_iald (q := 68) dX2_beginNextDay_67 rfl (nlt (mlt1 hc) hN) (mA1 hc) ?_
    refine ag_iconst (q := 69) (v := 1) dX2_beginNextDay_68 rfl (by decide) ?_
    refine ag_iadd (q := 70) dX2_beginNextDay_69 rfl ?_
    refine ag_iast (q := 71) dX2_beginNextDay_70 rfl (nlt (mlt1 hc) hN) (mA1 hc) ?_
    refine ag_iinc_1 (q := 74) (d := (1)) dX2_beginNextDay_71 rfl (Nat.le_of_ble_eq_true rfl) rfl (by decide) ?_
    refine ag_goto (q := 23) dX2_beginNextDay_74 rfl ?_
    exact ih (x1 + (1)) (up σ (c + 1) x1.toNatClampNeg ((σ (c + 1) x1.toNatClampNeg) + (1 : Int32)))
def J_X2_beginNextDay (c : Nat) (σ : Sg) : Option (Unit × Sg) :=
  (if (rmI ((up σ c 5 ((σ c 5) + (1 : Int32))) c 5) (9 : Int32)) = 0 then (J_X2_beginNextDay_b23 c  FU (0 : Int32) (up σ c 5 ((σ c 5) + (1 : Int32)))) else (some ((), (up σ c 5 ((σ c 5) + (1 : Int32))))))
set_option maxHeartbeats 4000000 in
theorem A_X2_beginNextDay (K : KT) {N : Nat} (hN : NC ≤ N) (c : Nat) (hc : isM c = true) (σ : Sg) : AG K mX2_beginNextDay N (fun a : Unit × Sg => (none, N, R0, a.2)) (J_X2_beginNextDay c σ) 0 [some (.ref c), none] [] σ := by
  unfold J_X2_beginNextDay
  refine ag_aload_0 (q := 1) dX2_beginNextDay_0 rfl ?_
  refine ag_dup (q := 2) dX2_beginNextDay_1 rfl rfl ?_
  refine ag_getI (q := 5) dX2_beginNextDay_2 rfl fl2_24 (nlt (mlt hc) hN) (mS hc) rfl ?_
  refine ag_iconst (q := 6) (v := 1) dX2_beginNextDay_5 rfl (by decide) ?_
  refine ag_iadd (q := 7) dX2_beginNextDay_6 rfl ?_
  refine ag_putI (q := 10) dX2_beginNextDay_7 rfl fl2_24 (nlt (mlt hc) hN) (mS hc) rfl ?_
  refine ag_aload_0 (q := 11) dX2_beginNextDay_10 rfl ?_
  refine ag_getI (q := 14) dX2_beginNextDay_11 rfl fl2_24 (nlt (mlt hc) hN) (mS hc) rfl ?_
  refine ag_bipush (q := 16) (v := 9) dX2_beginNextDay_14 rfl (by decide) ?_
  refine ag_iremK (q := 17) dX2_beginNextDay_16 rfl (by decide) ?_
  refine ag_if_eq (tgt := 21) (q := 20) dX2_beginNextDay_17 rfl rfl ?_ ?_
  · refine ag_iconst (q := 22) (v := 0) dX2_beginNextDay_21 rfl (by decide) ?_
    refine ag_istore_1 (q := 23) dX2_beginNextDay_22 rfl (Nat.le_of_ble_eq_true rfl) rfl ?_
    exact A_X2_beginNextDay_b23 K hN c hc  FU (0 : Int32) (up σ c 5 ((σ c 5) + (1 : Int32)))
  exact ag_vret dX2_beginNextDay_20 rfl rfl
theorem C_X2_beginNextDay {N : Nat} (hN : NC ≤ N) (c : Nat) (hc : isM c = true) (σ : Sg) : ∀ r s', J_X2_beginNextDay c σ = some (r, s') → AMc yX2_beginNextDay mX2_beginNextDay [.ref c] N R0 σ (none, N, R0, s') := fun r s' e => AMc.of (L := [some (.ref c), none]) (by decide) rfl (fun _ => rfl) (fun _ => Nat.le_of_ble_eq_true rfl) (Nat.le_refl _) (fun K => A_X2_beginNextDay K hN c hc σ _ e (Nat.le_refl _))
def J_X2_passDay (c : Nat) (σ : Sg) : Option (Unit × Sg) :=
  (bd2 (J_X2_graze c σ) fun r1 s1 => (bd2 (J_X2_beginNextDay c s1) fun r5 s5 => (some ((), s5))))
set_option maxHeartbeats 4000000 in
theorem A_X2_passDay (K : KT) {N : Nat} (hN : NC ≤ N) (c : Nat) (hc : isM c = true) (σ : Sg) : AG K mX2_passDay N (fun a : Unit × Sg => (none, N, R0, a.2)) (J_X2_passDay c σ) 0 [some (.ref c)] [] σ := by
  unfold J_X2_passDay
  refine ag_aload_0 (q := 1) dX2_passDay_0 rfl ?_
  refine ag_callV_mU (q := 4) (av := []) (rest := []) dX2_passDay_1 rfl lk2_124 (C_X2_graze hN c hc _) (by decide) (Nat.le_of_ble_eq_true rfl) (nlt (mlt hc) hN) (mS hc) (by decide) (fun _ => rfl) (Nat.le_of_ble_eq_true rfl) rfl (fun r1 s1 e1 => ?_)
  refine ag_aload_0 (q := 5) dX2_passDay_4 rfl ?_
  refine ag_callV_mU (q := 8) (av := []) (rest := []) dX2_passDay_5 rfl lk2_127 (C_X2_beginNextDay hN c hc _) (by decide) (Nat.le_of_ble_eq_true rfl) (nlt (mlt hc) hN) (mS hc) (by decide) (fun _ => rfl) (Nat.le_of_ble_eq_true rfl) rfl (fun r5 s5 e5 => ?_)
  exact ag_vret dX2_passDay_8 rfl rfl
theorem C_X2_passDay {N : Nat} (hN : NC ≤ N) (c : Nat) (hc : isM c = true) (σ : Sg) : ∀ r s', J_X2_passDay c σ = some (r, s') → AMc yX2_passDay mX2_passDay [.ref c] N R0 σ (none, N, R0, s') := fun r s' e => AMc.of (L := [some (.ref c)]) (by decide) rfl (fun _ => rfl) (fun _ => Nat.le_of_ble_eq_true rfl) (Nat.le_refl _) (fun K => A_X2_passDay K hN c hc σ _ e (Nat.le_refl _))
def J_X0_pass (a1 : Int32) (a2 : Int32) (a3 : Int32) (σ : Sg) : Option (Nat × Sg) :=
  (bd1 (J_X4_get 94 (a1 + (1 : Int32)) σ) fun r7 => (bd1 (J_X4_get 94 a1 σ) fun r19 => (bd2 (J_X2_copyFrom r7 r19 σ) fun r22 s22 => (if a2 = (-4 : Int32) then (bd2 (J_X2_passDay r7 s22) fun r40 s40 => (some (r7, s40))) else (bd2 (J_X2_move r7 a2 a3 s22) fun r35 s35 => (bd2 (J_X2_passDay r7 s35) fun r40 s40 => (some (r7, s40))))))))
set_option maxHeartbeats 4000000 in
theorem A_X0_pass (K : KT) {N : Nat} (hN : NC ≤ N) (a1 : Int32) (a2 : Int32) (a3 : Int32) (σ : Sg) : AG K mX0_pass N (fun a : Nat × Sg => (some (.ref a.1), N, R0, a.2)) (J_X0_pass a1 a2 a3 σ) 0 [some (.ref 92), some (.int a1), some (.int a2), some (.int a3), none] [] σ := by
  unfold J_X0_pass
  refine ag_aload_0 (q := 1) dX0_pass_0 rfl ?_
  refine ag_getR (q := 4) dX0_pass_1 rfl fl0_31 (Nat.lt_of_lt_of_le (by decide : 92 < NC) hN) (congrArg Prod.fst s_92) rfl r_92_1 ?_
  refine ag_iload_1 (q := 5) dX0_pass_4 rfl ?_
  refine ag_iconst (q := 6) (v := 1) dX0_pass_5 rfl (by decide) ?_
  refine ag_iadd (q := 7) dX0_pass_6 rfl ?_
  refine ag_callV_pR (q := 10) (av := [.int _]) (rest := []) dX0_pass_7 rfl lk0_35 (C_X4_get hN 94 (by decide) (a1 + (1 : Int32)) _) (by decide) (Nat.le_of_ble_eq_true rfl) (Nat.lt_of_lt_of_le (by decide : 94 < NC) hN) (congrArg Prod.fst s_94) (by decide) (fun _ => rfl) (Nat.le_of_ble_eq_true rfl) rfl (fun r7 e7 => ?_)
  refine ag_astore_4 (q := 12) dX0_pass_10 rfl (Nat.le_of_ble_eq_true rfl) rfl ?_
  refine ag_aload_4 (q := 14) dX0_pass_12 rfl ?_
  refine ag_aload_0 (q := 15) dX0_pass_14 rfl ?_
  refine ag_getR (q := 18) dX0_pass_15 rfl fl0_31 (Nat.lt_of_lt_of_le (by decide : 92 < NC) hN) (congrArg Prod.fst s_92) rfl r_92_1 ?_
  refine ag_iload_1 (q := 19) dX0_pass_18 rfl ?_
  refine ag_callV_pR (q := 22) (av := [.int _]) (rest := [.ref _]) dX0_pass_19 rfl lk0_35 (C_X4_get hN 94 (by decide) a1 _) (by decide) (Nat.le_of_ble_eq_true rfl) (Nat.lt_of_lt_of_le (by decide : 94 < NC) hN) (congrArg Prod.fst s_94) (by decide) (fun _ => rfl) (Nat.le_of_ble_eq_true rfl) rfl (fun r19 e19 => ?_)
  refine ag_callV_mU (q := 25) (av := [.ref _]) (rest := []) dX0_pass_22 rfl lk0_39 (C_X2_copyFrom hN r7 (G_X4_get (by decide) e7) r19 (G_X4_get (by decide) e19) _) (by decide) (Nat.le_of_ble_eq_true rfl) (nlt (mlt (G_X4_get (by decide) e7)) hN) (mS (G_X4_get (by decide) e7)) (by decide) (fun _ => rfl) (Nat.le_of_ble_eq_true rfl) rfl (fun r22 s22 e22 => ?_)
  refine ag_iload_2 (q := 26) dX0_pass_25 rfl ?_
  refine ag_bipush (q := 28) (v := -4) dX0_pass_26 rfl (by decide) ?_
  refine ag_icmp_eq (tgt := 38) (q := 31) dX0_pass_28 rfl rfl ?_ ?_
  · refine ag_aload_4 (q := 40) dX0_pass_38 rfl ?_
    refine ag_callV_mU (q := 43) (av := []) (rest := []) dX0_pass_40 rfl lk0_49 (C_X2_passDay hN r7 (G_X4_get (by decide) e7) _) (by decide) (Nat.le_of_ble_eq_true rfl) (nlt (mlt (G_X4_get (by decide) e7)) hN) (mS (G_X4_get (by decide) e7)) (by decide) (fun _ => rfl) (Nat.le_of_ble_eq_true rfl) rfl (fun r40 s40 e40 => ?_)
    refine ag_aload_4 (q := 45) dX0_pass_43 rfl ?_
    exact ag_aret dX0_pass_45 rfl rfl
  refine ag_aload_4 (q := 33) dX0_pass_31 rfl ?_
  refine ag_iload_2 (q := 34) dX0_pass_33 rfl ?_
  refine ag_iload_3 (q := 35) dX0_pass_34 rfl ?_
  refine ag_callV_mU (q := 38) (av := [.int _, .int _]) (rest := []) dX0_pass_35 rfl lk0_45 (C_X2_move hN r7 (G_X4_get (by decide) e7) a2 a3 _) (by decide) (Nat.le_of_ble_eq_true rfl) (nlt (mlt (G_X4_get (by decide) e7)) hN) (mS (G_X4_get (by decide) e7)) (by decide) (fun _ => rfl) (Nat.le_of_ble_eq_true rfl) rfl (fun r35 s35 e35 => ?_)
  refine ag_aload_4 (q := 40) dX0_pass_38 rfl ?_
  refine ag_callV_mU (q := 43) (av := []) (rest := []) dX0_pass_40 rfl lk0_49 (C_X2_passDay hN r7 (G_X4_get (by decide) e7) _) (by decide) (Nat.le_of_ble_eq_true rfl) (nlt (mlt (G_X4_get (by decide) e7)) hN) (mS (G_X4_get (by decide) e7)) (by decide) (fun _ => rfl) (Nat.le_of_ble_eq_true rfl) rfl (fun r40 s40 e40 => ?_)
  refine ag_aload_4 (q := 45) dX0_pass_43 rfl ?_
  exact ag_aret dX0_pass_45 rfl rfl
theorem C_X0_pass {N : Nat} (hN : NC ≤ N) (a1 : Int32) (a2 : Int32) (a3 : Int32) (σ : Sg) : ∀ r s', J_X0_pass a1 a2 a3 σ = some (r, s') → AMc yX0_pass mX0_pass [.ref 92, .int a1, .int a2, .int a3] N R0 σ (some (.ref r), N, R0, s') := fun r s' e => AMc.of (L := [some (.ref 92), some (.int a1), some (.int a2), some (.int a3), none]) (by decide) rfl (fun _ => rfl) (fun _ => Nat.le_of_ble_eq_true rfl) (Nat.le_refl _) (fun K => A_X0_pass K hN a1 a2 a3 σ _ e (Nat.le_refl _))
theorem G_X0_pass {a b c : Int32} {σ s : Sg} {r : Nat} (e : J_X0_pass a b c σ = some (r, s)) : isM r = true := by
  unfold J_X0_pass at e
  obtain ⟨_, e1, e⟩ := bd1_some e
  obtain ⟨_, e2, e⟩ := bd1_some e
  obtain ⟨_, _, _, e⟩ := bd2_some e
  split at e
  · obtain ⟨_, _, _, e⟩ := bd2_some e
    cases e
    exact G_X4_get (by decide) e1
  · obtain ⟨_, _, _, e⟩ := bd2_some e
    obtain ⟨_, _, _, e⟩ := bd2_some e
    cases e
    exact G_X4_get (by decide) e1
def J_X2_ramOnWell (c : Nat) (a1 : Int32) (σ : Sg) : Option Int32 :=
  (bd1 (J_X2_occupant c (σ (lnd c) 4) σ) fun r8 => (if r8 = (-4 : Int32) then (some (0 : Int32)) else (bd1 (J_X2_kindOf c r8 σ) fun r20 => (if r20 = 0 then (bd1 (J_X1_villageOf (lnd c) r8 σ) fun r31 => (if r31 = a1 then (some (1 : Int32)) else (some (0 : Int32)))) else (some (0 : Int32))))))
set_option maxHeartbeats 4000000 in
theorem A_X2_ramOnWell (K : KT) {N : Nat} (hN : NC ≤ N) (c : Nat) (hc : isM c = true) (a1 : Int32) (σ : Sg) : AG K mX2_ramOnWell N (fun a : Int32 => (some (.int a), N, R0, σ)) (J_X2_ramOnWell c a1 σ) 0 [some (.ref c), some (.int a1), none] [] σ := by
  unfold J_X2_ramOnWell
  refine ag_aload_0 (q := 1) dX2_ramOnWell_0 rfl ?_
  refine ag_aload_0 (q := 2) dX2_ramOnWell_1 rfl ?_
  refine ag_getR (q := 5) dX2_ramOnWell_2 rfl fl2_28 (nlt (mlt hc) hN) (mS hc) rfl (mR0 hc) ?_
  refine ag_getI (q := 8) dX2_ramOnWell_5 rfl fl2_139 (nlt (llt (lndL hc)) hN) (lS (lndL hc)) rfl ?_
  refine ag_callV_pI (q := 11) (av := [.int _]) (rest := []) dX2_ramOnWell_8 rfl lk2_77 (C_X2_occupant hN c hc (σ (lnd c) 4) _) (by decide) (Nat.le_of_ble_eq_true rfl) (nlt (mlt hc) hN) (mS hc) (by decide) (fun _ => rfl) (Nat.le_of_ble_eq_true rfl) rfl (fun r8 e8 => ?_)
  refine ag_istore_2 (q := 12) dX2_ramOnWell_11 rfl (Nat.le_of_ble_eq_true rfl) rfl ?_
  refine ag_iload_2 (q := 13) dX2_ramOnWell_12 rfl ?_
  refine ag_bipush (q := 15) (v := -4) dX2_ramOnWell_13 rfl (by decide) ?_
  refine ag_icmp_eq (tgt := 42) (q := 18) dX2_ramOnWell_15 rfl rfl ?_ ?_
  · refine ag_iconst (q := 43) (v := 0) dX2_ramOnWell_42 rfl (by decide) ?_
    exact ag_zretK dX2_ramOnWell_43 rfl (by decide) rfl
  refine ag_aload_0 (q := 19) dX2_ramOnWell_18 rfl ?_
  refine ag_iload_2 (q := 20) dX2_ramOnWell_19 rfl ?_
  refine ag_callV_pI (q := 23) (av := [.int _]) (rest := []) dX2_ramOnWell_20 rfl lk2_57 (C_X2_kindOf hN c hc r8 _) (by decide) (Nat.le_of_ble_eq_true rfl) (nlt (mlt hc) hN) (mS hc) (by decide) (fun _ => rfl) (Nat.le_of_ble_eq_true rfl) rfl (fun r20 e20 => ?_)
  refine ag_if_ne (tgt := 42) (q := 26) dX2_ramOnWell_23 rfl rfl ?_ ?_
  · refine ag_iconst (q := 43) (v := 0) dX2_ramOnWell_42 rfl (by decide) ?_
    exact ag_zretK dX2_ramOnWell_43 rfl (by decide) rfl
  refine ag_aload_0 (q := 27) dX2_ramOnWell_26 rfl ?_
  refine ag_getR (q := 30) dX2_ramOnWell_27 rfl fl2_28 (nlt (mlt hc) hN) (mS hc) rfl (mR0 hc) ?_
  refine ag_iload_2 (q := 31) dX2_ramOnWell_30 rfl ?_
  refine ag_callV_pI (q := 34) (av := [.int _]) (rest := []) dX2_ramOnWell_31 rfl lk2_63 (C_X1_villageOf hN (lnd c) (lndL hc) r8 _) (by decide) (Nat.le_of_ble_eq_true rfl) (nlt (llt (lndL hc)) hN) (lS (lndL hc)) (by decide) (fun _ => rfl) (Nat.le_of_ble_eq_true rfl) rfl (fun r31 e31 => ?_)
  refine ag_iload_1 (q := 35) dX2_ramOnWell_34 rfl ?_
  refine ag_icmp_ne (tgt := 42) (q := 38) dX2_ramOnWell_35 rfl rfl ?_ ?_
  · refine ag_iconst (q := 43) (v := 0) dX2_ramOnWell_42 rfl (by decide) ?_
    exact ag_zretK dX2_ramOnWell_43 rfl (by decide) rfl
  refine ag_iconst (q := 39) (v := 1) dX2_ramOnWell_38 rfl (by decide) ?_
  refine ag_goto (q := 43) dX2_ramOnWell_39 rfl ?_
  exact ag_zretK dX2_ramOnWell_43 rfl (by decide) rfl
theorem C_X2_ramOnWell {N : Nat} (hN : NC ≤ N) (c : Nat) (hc : isM c = true) (a1 : Int32) (σ : Sg) : ∀ r, J_X2_ramOnWell c a1 σ = some r → AMc yX2_ramOnWell mX2_ramOnWell [.ref c, .int a1] N R0 σ (some (.int r), N, R0, σ) := fun r e => AMc.of (L := [some (.ref c), some (.int a1), none]) (by decide) rfl (fun _ => rfl) (fun _ => Nat.le_of_ble_eq_true rfl) (Nat.le_refl _) (fun K => A_X2_ramOnWell K hN c hc a1 σ _ e (Nat.le_refl _))
def J_X2_lost_b49 (c : Nat) (y6 : Int32 → Int32 → Int32 → Sg → Option Int32) (x1 : Int32) (x2 : Int32) (x3 : Int32) (w0 : Int32) (σ : Sg) : Option Int32 :=
  (if inb x3 8 = true then (if (σ (c + 2) x3.toNatClampNeg) = (-4 : Int32) then (y6 (x1 ||| w0) (x2 ||| (0 : Int32)) (x3 + (1)) σ) else (y6 (x1 ||| w0) (x2 ||| w0) (x3 + (1)) σ)) else none)
set_option maxHeartbeats 4000000 in
theorem A_X2_lost_b49 (K : KT) {N : Nat} (hN : NC ≤ N) (c : Nat) (hc : isM c = true) (y6 : Int32 → Int32 → Int32 → Sg → Option Int32) (hy6 : ∀ (x1 : Int32) (x2 : Int32) (x3 : Int32) (σ : Sg), AG K mX2_lost N (fun a : Int32 => (some (.int a), N, R0, σ)) (y6 x1 x2 x3 σ) 6 [some (.ref c), some (.int x1), some (.int x2), some (.int x3), none] [] σ) (x1 : Int32) (x2 : Int32) (x3 : Int32) (w0 : Int32) (σ : Sg) : AG K mX2_lost N (fun a : Int32 => (some (.int a), N, R0, σ)) (J_X2_lost_b49 c y6 x1 x2 x3 w0 σ) 49 [some (.ref c), some (.int x1), some (.int x2), some (.int x3), none] [.int w0] σ := by
  unfold J_X2_lost_b49
  refine ag_istore_4 (q := 51) dX2_lost_49 rfl (Nat.le_of_ble_eq_true rfl) rfl ?_
  refine ag_iload_1 (q := 52) dX2_lost_51 rfl ?_
  refine ag_iload_4 (q := 54) dX2_lost_52 rfl ?_
  refine ag_ior (q := 55) dX2_lost_54 rfl ?_
  refine ag_istore_1 (q := 56) dX2_lost_55 rfl (Nat.le_of_ble_eq_true rfl) rfl ?_
  refine ag_iload_2 (q := 57) dX2_lost_56 rfl ?_
  refine ag_aload_0 (q := 58) dX2_lost_57 rfl ?_
  refine ag_getR (q := 61) dX2_lost_58 rfl fl2_15 (nlt (mlt hc) hN) (mS hc) rfl (mR2 hc) ?_
  refine ag_iload_3 (q := 62) dX2_lost_61 rfl ?_
  refine ag_iald (q := 63) dX2_lost_62 rfl (nlt (mlt2 hc) hN) (mA2 hc) ?_
  refine ag_bipush (q := 65) (v := -4) dX2_lost_63 rfl (by decide) ?_
  refine ag_icmp_ne (tgt := 72) (q := 68) dX2_lost_65 rfl rfl ?_ ?_
  · refine ag_iload_4 (q := 74) dX2_lost_72 rfl ?_
    refine ag_ior (q := 75) dX2_lost_74 rfl ?_
    refine ag_istore_2 (q := 76) dX2_lost_75 rfl (Nat.le_of_ble_eq_true rfl) rfl ?_
    refine ag_iinc_3 (q := 79) (d := (1)) dX2_lost_76 rfl (Nat.le_of_ble_eq_true rfl) rfl (by decide) ?_
    refine ag_goto (q := 6) dX2_lost_79 rfl ?_
    refine ag_kill_4 ?_
    exact hy6 (x1 ||| w0) (x2 ||| w0) (x3 + (1)) σ
  refine ag_iconst (q := 69) (v := 0) dX2_lost_68 rfl (by decide) ?_
  refine ag_goto (q := 74) dX2_lost_69 rfl ?_
  refine ag_ior (q := 75) dX2_lost_74 rfl ?_
  refine ag_istore_2 (q := 76) dX2_lost_75 rfl (Nat.le_of_ble_eq_true rfl) rfl ?_
  refine ag_iinc_3 (q := 79) (d := (1)) dX2_lost_76 rfl (Nat.le_of_ble_eq_true rfl) rfl (by decide) ?_
  refine ag_goto (q := 6) dX2_lost_79 rfl ?_
  refine ag_kill_4 ?_
  exact hy6 (x1 ||| w0) (x2 ||| (0 : Int32)) (x3 + (1)) σ
def J_X2_lost_b6 (c : Nat) : Nat → Int32 → Int32 → Int32 → Sg → Option Int32
  | 0, _, _, _, _ => none
  | k + 1, x1, x2, x3, σ =>
    (if (σ (lnd c) 3) ≤ x3 then (some (x1 &&& (x2 ^^^ (-1 : Int32)))) else (if (8 : Int32) ≤ x3 then (some (x1 &&& (x2 ^^^ (-1 : Int32)))) else (if inb x3 8 = true then (if (σ (c + 3) x3.toNatClampNeg) = (3 : Int32) then (bd1 (J_X1_villageOf (lnd c) x3 σ) fun r38 => (if r38 = 0 then (J_X2_lost_b49 c (fun x1 x2 x3 σ => J_X2_lost_b6 c  k x1 x2 x3 σ) x1 x2 x3 (1 : Int32) σ) else (J_X2_lost_b49 c (fun x1 x2 x3 σ => J_X2_lost_b6 c  k x1 x2 x3 σ) x1 x2 x3 (2 : Int32) σ))) else (J_X2_lost_b6 c  k x1 x2 (x3 + (1)) σ)) else none)))
set_option maxHeartbeats 4000000 in
theorem A_X2_lost_b6 (K : KT) {N : Nat} (hN : NC ≤ N) (c : Nat) (hc : isM c = true) : ∀ (k : Nat) (x1 : Int32) (x2 : Int32) (x3 : Int32) (σ : Sg), AG K mX2_lost N (fun a : Int32 => (some (.int a), N, R0, σ)) (J_X2_lost_b6 c  k x1 x2 x3 σ) 6 [some (.ref c), some (.int x1), some (.int x2), some (.int x3), none] [] σ := by
  intro k
  induction k with
  | zero => intro x1 x2 x3 σ; exact ag_none
  | succ k ih =>
    intro x1 x2 x3 σ
    rw [J_X2_lost_b6]
    refine ag_iload_3 (q := 7) dX2_lost_6 rfl ?_
    refine ag_aload_0 (q := 8) dX2_lost_7 rfl ?_
    refine ag_getR (q := 11) dX2_lost_8 rfl fl2_28 (nlt (mlt hc) hN) (mS hc) rfl (mR0 hc) ?_
    refine ag_getI (q := 14) dX2_lost_11 rfl fl2_43 (nlt (llt (lndL hc)) hN) (lS (lndL hc)) rfl ?_
    refine ag_icmp_ge (tgt := 82) (q := 17) dX2_lost_14 rfl rfl ?_ ?_
    · refine ag_iload_1 (q := 83) dX2_lost_82 rfl ?_
      refine ag_iload_2 (q := 84) dX2_lost_83 rfl ?_
      refine ag_iconst (q := 85) (v := -1) dX2_lost_84 rfl (by decide) ?_
      refine ag_ixor (q := 86) dX2_lost_85 rfl ?_
      refine ag_iand (q := 87) dX2_lost_86 rfl ?_
      exact ag_iret dX2_lost_87 rfl rfl
    refine ag_iload_3 (q := 18) dX2_lost_17 rfl ?_
    refine ag_bipush (q := 20) (v := 8) dX2_lost_18 rfl (by decide) ?_
    refine ag_icmp_ge (tgt := 82) (q := 23) dX2_lost_20 rfl rfl ?_ ?_
    · refine ag_iload_1 (q := 83) dX2_lost_82 rfl ?_
      refine ag_iload_2 (q := 84) dX2_lost_83 rfl ?_
      refine ag_iconst (q := 85) (v := -1) dX2_lost_84 rfl (by decide) ?_
      refine ag_ixor (q := 86) dX2_lost_85 rfl ?_
      refine ag_iand (q := 87) dX2_lost_86 rfl ?_
      exact ag_iret dX2_lost_87 rfl rfl
    refine ag_aload_0 (q := 24) dX2_lost_23 rfl ?_
    refine ag_getR (q := 27) dX2_lost_24 rfl fl2_18 (nlt (mlt hc) hN) (mS hc) rfl (mR3 hc) ?_
    refine ag_iload_3 (q := 28) dX2_lost_27 rfl ?_
    refine ag_iald (q := 29) dX2_lost_28 rfl (nlt (mlt3 hc) hN) (mA3 hc) ?_
    refine ag_iconst (q := 30) (v := 3) dX2_lost_29 rfl (by decide) ?_
    refine ag_icmp_ne (tgt := 76) (q := 33) dX2_lost_30 rfl rfl ?_ ?_
    · refine ag_iinc_3 (q := 79) (d := (1)) dX2_lost_76 rfl (Nat.le_of_ble_eq_true rfl) rfl (by decide) ?_
      refine ag_goto (q := 6) dX2_lost_79 rfl ?_
      exact ih x1 x2 (x3 + (1)) σ
    refine ag_aload_0 (q := 34) dX2_lost_33 rfl ?_
    refine ag_getR (q := 37) dX2_lost_34 rfl fl2_28 (nlt (mlt hc) hN) (mS hc) rfl (mR0 hc) ?_
    refine ag_iload_3 (q := 38) dX2_lost_37 rfl ?_
    refine ag_callV_pI (q := 41) (av := [.int _]) (rest := []) dX2_lost_38 rfl lk2_63 (C_X1_villageOf hN (lnd c) (lndL hc) x3 _) (by decide) (Nat.le_of_ble_eq_true rfl) (nlt (llt (lndL hc)) hN) (lS (lndL hc)) (by decide) (fun _ => rfl) (Nat.le_of_ble_eq_true rfl) rfl (fun r38 e38 => ?_)
    refine ag_if_ne (tgt := 48) (q := 44) dX2_lost_41 rfl rfl ?_ ?_
    · refine ag_iconst (q := 49) (v := 2) dX2_lost_48 rfl (by decide) ?_
      exact A_X2_lost_b49 K hN c hc (fun x1 x2 x3 σ => J_X2_lost_b6 c  k x1 x2 x3 σ) (fun x1 x2 x3 σ => ih x1 x2 x3 σ) x1 x2 x3 (2 : Int32) σ
    refine ag_iconst (q := 45) (v := 1) dX2_lost_44 rfl (by decide) ?_
    refine ag_goto (q := 49) dX2_lost_45 rfl ?_
    exact A_X2_lost_b49 K hN c hc (fun x1 x2 x3 σ => J_X2_lost_b6 c  k x1 x2 x3 σ) (fun x1 x2 x3 σ => ih x1 x2 x3 σ) x1 x2 x3 (1 : Int32) σ
def J_X2_lost (c : Nat) (σ : Sg) : Option Int32 :=
  (J_X2_lost_b6 c  FU (0 : Int32) (0 : Int32) (0 : Int32) σ)
set_option maxHeartbeats 4000000 in
theorem A_X2_lost (K : KT) {N : Nat} (hN : NC ≤ N) (c : Nat) (hc : isM c = true) (σ : Sg) : AG K mX2_lost N (fun a : Int32 => (some (.int a), N, R0, σ)) (J_X2_lost c σ) 0 [some (.ref c), none, none, none, none] [] σ := by
  unfold J_X2_lost
  refine ag_iconst (q := 1) (v := 0) dX2_lost_0 rfl (by decide) ?_
  refine ag_istore_1 (q := 2) dX2_lost_1 rfl (Nat.le_of_ble_eq_true rfl) rfl ?_
  refine ag_iconst (q := 3) (v := 0) dX2_lost_2 rfl (by decide) ?_
  refine ag_istore_2 (q := 4) dX2_lost_3 rfl (Nat.le_of_ble_eq_true rfl) rfl ?_
  refine ag_iconst (q := 5) (v := 0) dX2_lost_4 rfl (by decide) ?_
  refine ag_istore_3 (q := 6) dX2_lost_5 rfl (Nat.le_of_ble_eq_true rfl) rfl ?_
  exact A_X2_lost_b6 K hN c hc  FU (0 : Int32) (0 : Int32) (0 : Int32) σ
theorem C_X2_lost {N : Nat} (hN : NC ≤ N) (c : Nat) (hc : isM c = true) (σ : Sg) : ∀ r, J_X2_lost c σ = some r → AMc yX2_lost mX2_lost [.ref c] N R0 σ (some (.int r), N, R0, σ) := fun r e => AMc.of (L := [some (.ref c), none, none, none, none]) (by decide) rfl (fun _ => rfl) (fun _ => Nat.le_of_ble_eq_true rfl) (Nat.le_refl _) (fun K => A_X2_lost K hN c hc σ _ e (Nat.le_refl _))
def J_X2_staying_b4 (c : Nat) : Nat → Int32 → Int32 → Int32 → Sg → Option Int32
  | 0, _, _, _, _ => none
  | k + 1, x1, x2, x3, σ =>
    (if (σ (lnd c) 3) ≤ x3 then (some x2) else (if (8 : Int32) ≤ x3 then (some x2) else (if inb x3 8 = true then (if (σ (c + 2) x3.toNatClampNeg) = (-4 : Int32) then (J_X2_staying_b4 c  k x1 x2 (x3 + (1)) σ) else (bd1 (J_X1_villageOf (lnd c) x3 σ) fun r37 => (if r37 = x1 then (J_X2_staying_b4 c  k x1 (x2 + (1)) (x3 + (1)) σ) else (J_X2_staying_b4 c  k x1 x2 (x3 + (1)) σ)))) else none)))
set_option maxHeartbeats 4000000 in
theorem A_X2_staying_b4 (K : KT) {N : Nat} (hN : NC ≤ N) (c : Nat) (hc : isM c = true) : ∀ (k : Nat) (x1 : Int32) (x2 : Int32) (x3 : Int32) (σ : Sg), AG K mX2_staying N (fun a : Int32 => (some (.int a), N, R0, σ)) (J_X2_staying_b4 c  k x1 x2 x3 σ) 4 [some (.ref c), some (.int x1), some (.int x2), some (.int x3)] [] σ := by
  intro k
  induction k with
  | zero => intro x1 x2 x3 σ; exact ag_none
  | succ k ih =>
    intro x1 x2 x3 σ
    rw [J_X2_staying_b4]
    refine ag_iload_3 (q := 5) dX2_staying_4 rfl ?_
    refine ag_aload_0 (q := 6) dX2_staying_5 rfl ?_
    refine ag_getR (q := 9) dX2_staying_6 rfl fl2_28 (nlt (mlt hc) hN) (mS hc) rfl (mR0 hc) ?_
    refine ag_getI (q := 12) dX2_staying_9 rfl fl2_43 (nlt (llt (lndL hc)) hN) (lS (lndL hc)) rfl ?_
    refine ag_icmp_ge (tgt := 53) (q := 15) dX2_staying_12 rfl rfl ?_ ?_
    · refine ag_iload_2 (q := 54) dX2_staying_53 rfl ?_
      exact ag_iret dX2_staying_54 rfl rfl
    refine ag_iload_3 (q := 16) dX2_staying_15 rfl ?_
    refine ag_bipush (q := 18) (v := 8) dX2_staying_16 rfl (by decide) ?_
    refine ag_icmp_ge (tgt := 53) (q := 21) dX2_staying_18 rfl rfl ?_ ?_
    · refine ag_iload_2 (q := 54) dX2_staying_53 rfl ?_
      exact ag_iret dX2_staying_54 rfl rfl
    refine ag_aload_0 (q := 22) dX2_staying_21 rfl ?_
    refine ag_getR (q := 25) dX2_staying_22 rfl fl2_15 (nlt (mlt hc) hN) (mS hc) rfl (mR2 hc) ?_
    refine ag_iload_3 (q := 26) dX2_staying_25 rfl ?_
    refine ag_iald (q := 27) dX2_staying_26 rfl (nlt (mlt2 hc) hN) (mA2 hc) ?_
    refine ag_bipush (q := 29) (v := -4) dX2_staying_27 rfl (by decide) ?_
    refine ag_icmp_eq (tgt := 47) (q := 32) dX2_staying_29 rfl rfl ?_ ?_
    · refine ag_iinc_3 (q := 50) (d := (1)) dX2_staying_47 rfl (Nat.le_of_ble_eq_true rfl) rfl (by decide) ?_
      refine ag_goto (q := 4) dX2_staying_50 rfl ?_
      exact ih x1 x2 (x3 + (1)) σ
    refine ag_aload_0 (q := 33) dX2_staying_32 rfl ?_
    refine ag_getR (q := 36) dX2_staying_33 rfl fl2_28 (nlt (mlt hc) hN) (mS hc) rfl (mR0 hc) ?_
    refine ag_iload_3 (q := 37) dX2_staying_36 rfl ?_
    refine ag_callV_pI (q := 40) (av := [.int _]) (rest := []) dX2_staying_37 rfl lk2_63 (C_X1_villageOf hN (lnd c) (lndL hc) x3 _) (by decide) (Nat.le_of_ble_eq_true rfl) (nlt (llt (lndL hc)) hN) (lS (lndL hc)) (by decide) (fun _ => rfl) (Nat.le_of_ble_eq_true rfl) rfl (fun r37 e37 => ?_)
    refine ag_iload_1 (q := 41) dX2_staying_40 rfl ?_
    refine ag_icmp_ne (tgt := 47) (q := 44) dX2_staying_41 rfl rfl ?_ ?_
    · refine ag_iinc_3 (q := 50) (d := (1)) dX2_staying_47 rfl (Nat.le_of_ble_eq_true rfl) rfl (by decide) ?_
      refine ag_goto (q := 4) dX2_staying_50 rfl ?_
      exact ih x1 x2 (x3 + (1)) σ
    refine ag_iinc_2 (q := 47) (d := (1)) dX2_staying_44 rfl (Nat.le_of_ble_eq_true rfl) rfl (by decide) ?_
    refine ag_iinc_3 (q := 50) (d := (1)) dX2_staying_47 rfl (Nat.le_of_ble_eq_true rfl) rfl (by decide) ?_
    refine ag_goto (q := 4) dX2_staying_50 rfl ?_
    exact ih x1 (x2 + (1)) (x3 + (1)) σ
def J_X2_staying (c : Nat) (a1 : Int32) (σ : Sg) : Option Int32 :=
  (J_X2_staying_b4 c  FU a1 (0 : Int32) (0 : Int32) σ)
set_option maxHeartbeats 4000000 in
theorem A_X2_staying (K : KT) {N : Nat} (hN : NC ≤ N) (c : Nat) (hc : isM c = true) (a1 : Int32) (σ : Sg) : AG K mX2_staying N (fun a : Int32 => (some (.int a), N, R0, σ)) (J_X2_staying c a1 σ) 0 [some (.ref c), some (.int a1), none, none] [] σ := by
  unfold J_X2_staying
  refine ag_iconst (q := 1) (v := 0) dX2_staying_0 rfl (by decide) ?_
  refine ag_istore_2 (q := 2) dX2_staying_1 rfl (Nat.le_of_ble_eq_true rfl) rfl ?_
  refine ag_iconst (q := 3) (v := 0) dX2_staying_2 rfl (by decide) ?_
  refine ag_istore_3 (q := 4) dX2_staying_3 rfl (Nat.le_of_ble_eq_true rfl) rfl ?_
  exact A_X2_staying_b4 K hN c hc  FU a1 (0 : Int32) (0 : Int32) σ
theorem C_X2_staying {N : Nat} (hN : NC ≤ N) (c : Nat) (hc : isM c = true) (a1 : Int32) (σ : Sg) : ∀ r, J_X2_staying c a1 σ = some r → AMc yX2_staying mX2_staying [.ref c, .int a1] N R0 σ (some (.int r), N, R0, σ) := fun r e => AMc.of (L := [some (.ref c), some (.int a1), none, none]) (by decide) rfl (fun _ => rfl) (fun _ => Nat.le_of_ble_eq_true rfl) (Nat.le_refl _) (fun K => A_X2_staying K hN c hc a1 σ _ e (Nat.le_refl _))
def J_X2_turn (c : Nat) (σ : Sg) : Option Int32 :=
  (some ((σ c 5) &&& (1 : Int32)))
set_option maxHeartbeats 4000000 in
theorem A_X2_turn (K : KT) {N : Nat} (hN : NC ≤ N) (c : Nat) (hc : isM c = true) (σ : Sg) : AG K mX2_turn N (fun a : Int32 => (some (.int a), N, R0, σ)) (J_X2_turn c σ) 0 [some (.ref c)] [] σ := by
  unfold J_X2_turn
  refine ag_aload_0 (q := 1) dX2_turn_0 rfl ?_
  refine ag_getI (q := 4) dX2_turn_1 rfl fl2_24 (nlt (mlt hc) hN) (mS hc) rfl ?_
  refine ag_iconst (q := 5) (v := 1) dX2_turn_4 rfl (by decide) ?_
  refine ag_iand (q := 6) dX2_turn_5 rfl ?_
  exact ag_iret dX2_turn_6 rfl rfl
theorem C_X2_turn {N : Nat} (hN : NC ≤ N) (c : Nat) (hc : isM c = true) (σ : Sg) : ∀ r, J_X2_turn c σ = some r → AMc yX2_turn mX2_turn [.ref c] N R0 σ (some (.int r), N, R0, σ) := fun r e => AMc.of (L := [some (.ref c)]) (by decide) rfl (fun _ => rfl) (fun _ => Nat.le_of_ble_eq_true rfl) (Nat.le_refl _) (fun K => A_X2_turn K hN c hc σ _ e (Nat.le_refl _))
def J_X1_snowsOn (l : Nat) (a1 : Int32) (σ : Sg) : Option Int32 :=
  (if (σ l 6) < (1 : Int32) then (some (0 : Int32)) else (if (9 : Int32) < (σ l 6) then (some (0 : Int32)) else (if 0 ≤ a1 then (if (σ l 6) = 0 then none else (if inb (rmI a1 (σ l 6)) 9 = true then (if (σ (l + 2) (rmI a1 (σ l 6)).toNatClampNeg) = (1 : Int32) then (some (1 : Int32)) else (some (0 : Int32))) else none)) else (some (0 : Int32)))))
set_option maxHeartbeats 4000000 in
theorem A_X1_snowsOn (K : KT) {N : Nat} (hN : NC ≤ N) (l : Nat) (hl : isL l = true) (a1 : Int32) (σ : Sg) : AG K mX1_snowsOn N (fun a : Int32 => (some (.int a), N, R0, σ)) (J_X1_snowsOn l a1 σ) 0 [some (.ref l), some (.int a1)] [] σ := by
  unfold J_X1_snowsOn
  refine ag_aload_0 (q := 1) dX1_snowsOn_0 rfl ?_
  refine ag_getI (q := 4) dX1_snowsOn_1 rfl fl1_30 (nlt (llt hl) hN) (lS hl) rfl ?_
  refine ag_iconst (q := 5) (v := 1) dX1_snowsOn_4 rfl (by decide) ?_
  refine ag_icmp_lt (tgt := 21) (q := 8) dX1_snowsOn_5 rfl rfl ?_ ?_
  · refine ag_iconst (q := 22) (v := 0) dX1_snowsOn_21 rfl (by decide) ?_
    exact ag_zretK dX1_snowsOn_22 rfl (by decide) rfl
  refine ag_aload_0 (q := 9) dX1_snowsOn_8 rfl ?_
  refine ag_getI (q := 12) dX1_snowsOn_9 rfl fl1_30 (nlt (llt hl) hN) (lS hl) rfl ?_
  refine ag_bipush (q := 14) (v := 9) dX1_snowsOn_12 rfl (by decide) ?_
  refine ag_icmp_gt (tgt := 21) (q := 17) dX1_snowsOn_14 rfl rfl ?_ ?_
  · refine ag_iconst (q := 22) (v := 0) dX1_snowsOn_21 rfl (by decide) ?_
    exact ag_zretK dX1_snowsOn_22 rfl (by decide) rfl
  refine ag_iload_1 (q := 18) dX1_snowsOn_17 rfl ?_
  refine ag_if_ge (tgt := 23) (q := 21) dX1_snowsOn_18 rfl rfl ?_ ?_
  · refine ag_aload_0 (q := 24) dX1_snowsOn_23 rfl ?_
    refine ag_getR (q := 27) dX1_snowsOn_24 rfl fl1_37 (nlt (llt hl) hN) (lS hl) rfl (lR2 hl) ?_
    refine ag_iload_1 (q := 28) dX1_snowsOn_27 rfl ?_
    refine ag_aload_0 (q := 29) dX1_snowsOn_28 rfl ?_
    refine ag_getI (q := 32) dX1_snowsOn_29 rfl fl1_30 (nlt (llt hl) hN) (lS hl) rfl ?_
    refine ag_irem (q := 33) dX1_snowsOn_32 rfl ?_
    refine ag_iald (q := 34) dX1_snowsOn_33 rfl (nlt (llt2 hl) hN) (lA2 hl) ?_
    refine ag_iconst (q := 35) (v := 1) dX1_snowsOn_34 rfl (by decide) ?_
    refine ag_icmp_ne (tgt := 42) (q := 38) dX1_snowsOn_35 rfl rfl ?_ ?_
    · refine ag_iconst (q := 43) (v := 0) dX1_snowsOn_42 rfl (by decide) ?_
      exact ag_zretK dX1_snowsOn_43 rfl (by decide) rfl
    refine ag_iconst (q := 39) (v := 1) dX1_snowsOn_38 rfl (by decide) ?_
    refine ag_goto (q := 43) dX1_snowsOn_39 rfl ?_
    exact ag_zretK dX1_snowsOn_43 rfl (by decide) rfl
  refine ag_iconst (q := 22) (v := 0) dX1_snowsOn_21 rfl (by decide) ?_
  exact ag_zretK dX1_snowsOn_22 rfl (by decide) rfl
theorem C_X1_snowsOn {N : Nat} (hN : NC ≤ N) (l : Nat) (hl : isL l = true) (a1 : Int32) (σ : Sg) : ∀ r, J_X1_snowsOn l a1 σ = some r → AMc yX1_snowsOn mX1_snowsOn [.ref l, .int a1] N R0 σ (some (.int r), N, R0, σ) := fun r e => AMc.of (L := [some (.ref l), some (.int a1)]) (by decide) rfl (fun _ => rfl) (fun _ => Nat.le_of_ble_eq_true rfl) (Nat.le_refl _) (fun K => A_X1_snowsOn K hN l hl a1 σ _ e (Nat.le_refl _))
def J_X2_snowing (c : Nat) (σ : Sg) : Option Int32 :=
  (bd1 (J_X1_snowsOn (lnd c) (σ c 5) σ) fun r8 => (if r8 = 0 ∨ r8 = 1 then some r8 else none))
set_option maxHeartbeats 4000000 in
theorem A_X2_snowing (K : KT) {N : Nat} (hN : NC ≤ N) (c : Nat) (hc : isM c = true) (σ : Sg) : AG K mX2_snowing N (fun a : Int32 => (some (.int a), N, R0, σ)) (J_X2_snowing c σ) 0 [some (.ref c)] [] σ := by
  unfold J_X2_snowing
  refine ag_aload_0 (q := 1) dX2_snowing_0 rfl ?_
  refine ag_getR (q := 4) dX2_snowing_1 rfl fl2_28 (nlt (mlt hc) hN) (mS hc) rfl (mR0 hc) ?_
  refine ag_aload_0 (q := 5) dX2_snowing_4 rfl ?_
  refine ag_getI (q := 8) dX2_snowing_5 rfl fl2_24 (nlt (mlt hc) hN) (mS hc) rfl ?_
  refine ag_callV_pI (q := 11) (av := [.int _]) (rest := []) dX2_snowing_8 rfl lk2_50 (C_X1_snowsOn hN (lnd c) (lndL hc) (σ c 5) _) (by decide) (Nat.le_of_ble_eq_true rfl) (nlt (llt (lndL hc)) hN) (lS (lndL hc)) (by decide) (fun _ => rfl) (Nat.le_of_ble_eq_true rfl) rfl (fun r8 e8 => ?_)
  exact ag_zret dX2_snowing_11 rfl rfl
theorem C_X2_snowing {N : Nat} (hN : NC ≤ N) (c : Nat) (hc : isM c = true) (σ : Sg) : ∀ r, J_X2_snowing c σ = some r → AMc yX2_snowing mX2_snowing [.ref c] N R0 σ (some (.int r), N, R0, σ) := fun r e => AMc.of (L := [some (.ref c)]) (by decide) rfl (fun _ => rfl) (fun _ => Nat.le_of_ble_eq_true rfl) (Nat.le_refl _) (fun K => A_X2_snowing K hN c hc σ _ e (Nat.le_refl _))
def J_X2_placeOf (c : Nat) (a1 : Int32) (σ : Sg) : Option Int32 :=
  (if a1 < 0 then (some (-4 : Int32)) else (if (σ (lnd c) 3) ≤ a1 then (some (-4 : Int32)) else (if (8 : Int32) ≤ a1 then (some (-4 : Int32)) else (if inb a1 8 = true then (some (σ (c + 2) a1.toNatClampNeg)) else none))))
set_option maxHeartbeats 4000000 in
theorem A_X2_placeOf (K : KT) {N : Nat} (hN : NC ≤ N) (c : Nat) (hc : isM c = true) (a1 : Int32) (σ : Sg) : AG K mX2_placeOf N (fun a : Int32 => (some (.int a), N, R0, σ)) (J_X2_placeOf c a1 σ) 0 [some (.ref c), some (.int a1)] [] σ := by
  unfold J_X2_placeOf
  refine ag_iload_1 (q := 1) dX2_placeOf_0 rfl ?_
  refine ag_if_lt (tgt := 30) (q := 4) dX2_placeOf_1 rfl rfl ?_ ?_
  · refine ag_bipush (q := 32) (v := -4) dX2_placeOf_30 rfl (by decide) ?_
    exact ag_iret dX2_placeOf_32 rfl rfl
  refine ag_iload_1 (q := 5) dX2_placeOf_4 rfl ?_
  refine ag_aload_0 (q := 6) dX2_placeOf_5 rfl ?_
  refine ag_getR (q := 9) dX2_placeOf_6 rfl fl2_28 (nlt (mlt hc) hN) (mS hc) rfl (mR0 hc) ?_
  refine ag_getI (q := 12) dX2_placeOf_9 rfl fl2_43 (nlt (llt (lndL hc)) hN) (lS (lndL hc)) rfl ?_
  refine ag_icmp_ge (tgt := 30) (q := 15) dX2_placeOf_12 rfl rfl ?_ ?_
  · refine ag_bipush (q := 32) (v := -4) dX2_placeOf_30 rfl (by decide) ?_
    exact ag_iret dX2_placeOf_32 rfl rfl
  refine ag_iload_1 (q := 16) dX2_placeOf_15 rfl ?_
  refine ag_bipush (q := 18) (v := 8) dX2_placeOf_16 rfl (by decide) ?_
  refine ag_icmp_ge (tgt := 30) (q := 21) dX2_placeOf_18 rfl rfl ?_ ?_
  · refine ag_bipush (q := 32) (v := -4) dX2_placeOf_30 rfl (by decide) ?_
    exact ag_iret dX2_placeOf_32 rfl rfl
  refine ag_aload_0 (q := 22) dX2_placeOf_21 rfl ?_
  refine ag_getR (q := 25) dX2_placeOf_22 rfl fl2_15 (nlt (mlt hc) hN) (mS hc) rfl (mR2 hc) ?_
  refine ag_iload_1 (q := 26) dX2_placeOf_25 rfl ?_
  refine ag_iald (q := 27) dX2_placeOf_26 rfl (nlt (mlt2 hc) hN) (mA2 hc) ?_
  refine ag_goto (q := 32) dX2_placeOf_27 rfl ?_
  exact ag_iret dX2_placeOf_32 rfl rfl
theorem C_X2_placeOf {N : Nat} (hN : NC ≤ N) (c : Nat) (hc : isM c = true) (a1 : Int32) (σ : Sg) : ∀ r, J_X2_placeOf c a1 σ = some r → AMc yX2_placeOf mX2_placeOf [.ref c, .int a1] N R0 σ (some (.int r), N, R0, σ) := fun r e => AMc.of (L := [some (.ref c), some (.int a1)]) (by decide) rfl (fun _ => rfl) (fun _ => Nat.le_of_ble_eq_true rfl) (Nat.le_refl _) (fun K => A_X2_placeOf K hN c hc a1 σ _ e (Nat.le_refl _))
def J_X2_isOff (c : Nat) (a1 : Int32) (σ : Sg) : Option Int32 :=
  (bd1 (J_X2_placeOf c a1 σ) fun r2 => (if r2 = (-4 : Int32) then (some (1 : Int32)) else (some (0 : Int32))))
set_option maxHeartbeats 4000000 in
theorem A_X2_isOff (K : KT) {N : Nat} (hN : NC ≤ N) (c : Nat) (hc : isM c = true) (a1 : Int32) (σ : Sg) : AG K mX2_isOff N (fun a : Int32 => (some (.int a), N, R0, σ)) (J_X2_isOff c a1 σ) 0 [some (.ref c), some (.int a1)] [] σ := by
  unfold J_X2_isOff
  refine ag_aload_0 (q := 1) dX2_isOff_0 rfl ?_
  refine ag_iload_1 (q := 2) dX2_isOff_1 rfl ?_
  refine ag_callV_pI (q := 5) (av := [.int _]) (rest := []) dX2_isOff_2 rfl lk2_46 (C_X2_placeOf hN c hc a1 _) (by decide) (Nat.le_of_ble_eq_true rfl) (nlt (mlt hc) hN) (mS hc) (by decide) (fun _ => rfl) (Nat.le_of_ble_eq_true rfl) rfl (fun r2 e2 => ?_)
  refine ag_bipush (q := 7) (v := -4) dX2_isOff_5 rfl (by decide) ?_
  refine ag_icmp_ne (tgt := 14) (q := 10) dX2_isOff_7 rfl rfl ?_ ?_
  · refine ag_iconst (q := 15) (v := 0) dX2_isOff_14 rfl (by decide) ?_
    exact ag_zretK dX2_isOff_15 rfl (by decide) rfl
  refine ag_iconst (q := 11) (v := 1) dX2_isOff_10 rfl (by decide) ?_
  refine ag_goto (q := 15) dX2_isOff_11 rfl ?_
  exact ag_zretK dX2_isOff_15 rfl (by decide) rfl
theorem C_X2_isOff {N : Nat} (hN : NC ≤ N) (c : Nat) (hc : isM c = true) (a1 : Int32) (σ : Sg) : ∀ r, J_X2_isOff c a1 σ = some r → AMc yX2_isOff mX2_isOff [.ref c, .int a1] N R0 σ (some (.int r), N, R0, σ) := fun r e => AMc.of (L := [some (.ref c), some (.int a1)]) (by decide) rfl (fun _ => rfl) (fun _ => Nat.le_of_ble_eq_true rfl) (Nat.le_refl _) (fun K => A_X2_isOff K hN c hc a1 σ _ e (Nat.le_refl _))
def J_X1_beside (l : Nat) (a1 : Int32) (a2 : Int32) (σ : Sg) : Option Int32 :=
  (if a1 < 0 then (some (-4 : Int32)) else (if (σ l 0) ≤ a1 then (some (-4 : Int32)) else (if (1 : Int32) ≤ (σ l 1) then (if a2 = 0 then (if (σ l 1) ≤ a1 then (some (a1 - (σ l 1))) else (some (-4 : Int32))) else (if a2 = 1 then (if (σ l 1) = 0 then none else (if (rmI a1 (σ l 1)) = ((σ l 1) - (1 : Int32)) then (some (-4 : Int32)) else (some (a1 + (1 : Int32))))) else (if a2 = 2 then (if (a1 + (σ l 1)) < (σ l 0) then (some (a1 + (σ l 1))) else (some (-4 : Int32))) else (if a2 = 3 then (if (σ l 1) = 0 then none else (if (rmI a1 (σ l 1)) = 0 then (some (-4 : Int32)) else (some (a1 - (1 : Int32))))) else (some (-4 : Int32)))))) else (some (-4 : Int32)))))
set_option maxHeartbeats 4000000 in
theorem A_X1_beside (K : KT) {N : Nat} (hN : NC ≤ N) (l : Nat) (hl : isL l = true) (a1 : Int32) (a2 : Int32) (σ : Sg) : AG K mX1_beside N (fun a : Int32 => (some (.int a), N, R0, σ)) (J_X1_beside l a1 a2 σ) 0 [some (.ref l), some (.int a1), some (.int a2)] [] σ := by
  unfold J_X1_beside
  refine ag_iload_1 (q := 1) dX1_beside_0 rfl ?_
  refine ag_if_lt (tgt := 20) (q := 4) dX1_beside_1 rfl rfl ?_ ?_
  · refine ag_bipush (q := 22) (v := -4) dX1_beside_20 rfl (by decide) ?_
    exact ag_iret dX1_beside_22 rfl rfl
  refine ag_iload_1 (q := 5) dX1_beside_4 rfl ?_
  refine ag_aload_0 (q := 6) dX1_beside_5 rfl ?_
  refine ag_getI (q := 9) dX1_beside_6 rfl fl1_9 (nlt (llt hl) hN) (lS hl) rfl ?_
  refine ag_icmp_ge (tgt := 20) (q := 12) dX1_beside_9 rfl rfl ?_ ?_
  · refine ag_bipush (q := 22) (v := -4) dX1_beside_20 rfl (by decide) ?_
    exact ag_iret dX1_beside_22 rfl rfl
  refine ag_aload_0 (q := 13) dX1_beside_12 rfl ?_
  refine ag_getI (q := 16) dX1_beside_13 rfl fl1_15 (nlt (llt hl) hN) (lS hl) rfl ?_
  refine ag_iconst (q := 17) (v := 1) dX1_beside_16 rfl (by decide) ?_
  refine ag_icmp_ge (tgt := 23) (q := 20) dX1_beside_17 rfl rfl ?_ ?_
  · refine ag_iload_2 (q := 24) dX1_beside_23 rfl ?_
    refine ag_ite (fun z0 => ?_) (fun z0 => ?_)
    · refine ag_tin (k := 0) (q := 56) dX1_beside_24 z0 (by decide) (by decide) rfl rfl ?_
      refine ag_iload_1 (q := 57) dX1_beside_56 rfl ?_
      refine ag_aload_0 (q := 58) dX1_beside_57 rfl ?_
      refine ag_getI (q := 61) dX1_beside_58 rfl fl1_15 (nlt (llt hl) hN) (lS hl) rfl ?_
      refine ag_icmp_ge (tgt := 69) (q := 64) dX1_beside_61 rfl rfl ?_ ?_
      · refine ag_iload_1 (q := 70) dX1_beside_69 rfl ?_
        refine ag_aload_0 (q := 71) dX1_beside_70 rfl ?_
        refine ag_getI (q := 74) dX1_beside_71 rfl fl1_15 (nlt (llt hl) hN) (lS hl) rfl ?_
        refine ag_isub (q := 75) dX1_beside_74 rfl ?_
        exact ag_iret dX1_beside_75 rfl rfl
      refine ag_bipush (q := 66) (v := -4) dX1_beside_64 rfl (by decide) ?_
      refine ag_goto (q := 75) dX1_beside_66 rfl ?_
      exact ag_iret dX1_beside_75 rfl rfl
    refine ag_ite (fun z1 => ?_) (fun z1 => ?_)
    · refine ag_tin (k := 1) (q := 76) dX1_beside_24 z1 (by decide) (by decide) rfl rfl ?_
      refine ag_iload_1 (q := 77) dX1_beside_76 rfl ?_
      refine ag_aload_0 (q := 78) dX1_beside_77 rfl ?_
      refine ag_getI (q := 81) dX1_beside_78 rfl fl1_15 (nlt (llt hl) hN) (lS hl) rfl ?_
      refine ag_irem (q := 82) dX1_beside_81 rfl ?_
      refine ag_aload_0 (q := 83) dX1_beside_82 rfl ?_
      refine ag_getI (q := 86) dX1_beside_83 rfl fl1_15 (nlt (llt hl) hN) (lS hl) rfl ?_
      refine ag_iconst (q := 87) (v := 1) dX1_beside_86 rfl (by decide) ?_
      refine ag_isub (q := 88) dX1_beside_87 rfl ?_
      refine ag_icmp_ne (tgt := 96) (q := 91) dX1_beside_88 rfl rfl ?_ ?_
      · refine ag_iload_1 (q := 97) dX1_beside_96 rfl ?_
        refine ag_iconst (q := 98) (v := 1) dX1_beside_97 rfl (by decide) ?_
        refine ag_iadd (q := 99) dX1_beside_98 rfl ?_
        exact ag_iret dX1_beside_99 rfl rfl
      refine ag_bipush (q := 93) (v := -4) dX1_beside_91 rfl (by decide) ?_
      refine ag_goto (q := 99) dX1_beside_93 rfl ?_
      exact ag_iret dX1_beside_99 rfl rfl
    refine ag_ite (fun z2 => ?_) (fun z2 => ?_)
    · refine ag_tin (k := 2) (q := 100) dX1_beside_24 z2 (by decide) (by decide) rfl rfl ?_
      refine ag_iload_1 (q := 101) dX1_beside_100 rfl ?_
      refine ag_aload_0 (q := 102) dX1_beside_101 rfl ?_
      refine ag_getI (q := 105) dX1_beside_102 rfl fl1_15 (nlt (llt hl) hN) (lS hl) rfl ?_
      refine ag_iadd (q := 106) dX1_beside_105 rfl ?_
      refine ag_aload_0 (q := 107) dX1_beside_106 rfl ?_
      refine ag_getI (q := 110) dX1_beside_107 rfl fl1_9 (nlt (llt hl) hN) (lS hl) rfl ?_
      refine ag_icmp_lt (tgt := 118) (q := 113) dX1_beside_110 rfl rfl ?_ ?_
      · refine ag_iload_1 (q := 119) dX1_beside_118 rfl ?_
        refine ag_aload_0 (q := 120) dX1_beside_119 rfl ?_
        refine ag_getI (q := 123) dX1_beside_120 rfl fl1_15 (nlt (llt hl) hN) (lS hl) rfl ?_
        refine ag_iadd (q := 124) dX1_beside_123 rfl ?_
        exact ag_iret dX1_beside_124 rfl rfl
      refine ag_bipush (q := 115) (v := -4) dX1_beside_113 rfl (by decide) ?_
      refine ag_goto (q := 124) dX1_beside_115 rfl ?_
      exact ag_iret dX1_beside_124 rfl rfl
    refine ag_ite (fun z3 => ?_) (fun z3 => ?_)
    · refine ag_tin (k := 3) (q := 125) dX1_beside_24 z3 (by decide) (by decide) rfl rfl ?_
      refine ag_iload_1 (q := 126) dX1_beside_125 rfl ?_
      refine ag_aload_0 (q := 127) dX1_beside_126 rfl ?_
      refine ag_getI (q := 130) dX1_beside_127 rfl fl1_15 (nlt (llt hl) hN) (lS hl) rfl ?_
      refine ag_irem (q := 131) dX1_beside_130 rfl ?_
      refine ag_if_ne (tgt := 139) (q := 134) dX1_beside_131 rfl rfl ?_ ?_
      · refine ag_iload_1 (q := 140) dX1_beside_139 rfl ?_
        refine ag_iconst (q := 141) (v := 1) dX1_beside_140 rfl (by decide) ?_
        refine ag_isub (q := 142) dX1_beside_141 rfl ?_
        exact ag_iret dX1_beside_142 rfl rfl
      refine ag_bipush (q := 136) (v := -4) dX1_beside_134 rfl (by decide) ?_
      refine ag_goto (q := 142) dX1_beside_136 rfl ?_
      exact ag_iret dX1_beside_142 rfl rfl
    refine ag_tout (q := 143) dX1_beside_24 (by have q0 := lv_neT z0 (by decide : (0 : Int32).toInt = 0); have q1 := lv_neT z1 (by decide : (1 : Int32).toInt = 1); have q2 := lv_neT z2 (by decide : (2 : Int32).toInt = 2); have q3 := lv_neT z3 (by decide : (3 : Int32).toInt = 3); omega) rfl ?_
    refine ag_bipush (q := 145) (v := -4) dX1_beside_143 rfl (by decide) ?_
    exact ag_iret dX1_beside_145 rfl rfl
  refine ag_bipush (q := 22) (v := -4) dX1_beside_20 rfl (by decide) ?_
  exact ag_iret dX1_beside_22 rfl rfl
theorem C_X1_beside {N : Nat} (hN : NC ≤ N) (l : Nat) (hl : isL l = true) (a1 : Int32) (a2 : Int32) (σ : Sg) : ∀ r, J_X1_beside l a1 a2 σ = some r → AMc yX1_beside mX1_beside [.ref l, .int a1, .int a2] N R0 σ (some (.int r), N, R0, σ) := fun r e => AMc.of (L := [some (.ref l), some (.int a1), some (.int a2)]) (by decide) rfl (fun _ => rfl) (fun _ => Nat.le_of_ble_eq_true rfl) (Nat.le_refl _) (fun K => A_X1_beside K hN l hl a1 a2 σ _ e (Nat.le_refl _))
def J_X2_grassOn (c : Nat) (a1 : Int32) (σ : Sg) : Option Int32 :=
  (if a1 < 0 then (some (9 : Int32)) else (if (σ (lnd c) 0) ≤ a1 then (some (9 : Int32)) else (if (36 : Int32) ≤ a1 then (some (9 : Int32)) else (if inb a1 36 = true then (some (σ (c + 1) a1.toNatClampNeg)) else none))))
set_option maxHeartbeats 4000000 in
theorem A_X2_grassOn (K : KT) {N : Nat} (hN : NC ≤ N) (c : Nat) (hc : isM c = true) (a1 : Int32) (σ : Sg) : AG K mX2_grassOn N (fun a : Int32 => (some (.int a), N, R0, σ)) (J_X2_grassOn c a1 σ) 0 [some (.ref c), some (.int a1)] [] σ := by
  unfold J_X2_grassOn
  refine ag_iload_1 (q := 1) dX2_grassOn_0 rfl ?_
  refine ag_if_lt (tgt := 30) (q := 4) dX2_grassOn_1 rfl rfl ?_ ?_
  · refine ag_bipush (q := 32) (v := 9) dX2_grassOn_30 rfl (by decide) ?_
    exact ag_iret dX2_grassOn_32 rfl rfl
  refine ag_iload_1 (q := 5) dX2_grassOn_4 rfl ?_
  refine ag_aload_0 (q := 6) dX2_grassOn_5 rfl ?_
  refine ag_getR (q := 9) dX2_grassOn_6 rfl fl2_28 (nlt (mlt hc) hN) (mS hc) rfl (mR0 hc) ?_
  refine ag_getI (q := 12) dX2_grassOn_9 rfl fl2_38 (nlt (llt (lndL hc)) hN) (lS (lndL hc)) rfl ?_
  refine ag_icmp_ge (tgt := 30) (q := 15) dX2_grassOn_12 rfl rfl ?_ ?_
  · refine ag_bipush (q := 32) (v := 9) dX2_grassOn_30 rfl (by decide) ?_
    exact ag_iret dX2_grassOn_32 rfl rfl
  refine ag_iload_1 (q := 16) dX2_grassOn_15 rfl ?_
  refine ag_bipush (q := 18) (v := 36) dX2_grassOn_16 rfl (by decide) ?_
  refine ag_icmp_ge (tgt := 30) (q := 21) dX2_grassOn_18 rfl rfl ?_ ?_
  · refine ag_bipush (q := 32) (v := 9) dX2_grassOn_30 rfl (by decide) ?_
    exact ag_iret dX2_grassOn_32 rfl rfl
  refine ag_aload_0 (q := 22) dX2_grassOn_21 rfl ?_
  refine ag_getR (q := 25) dX2_grassOn_22 rfl fl2_9 (nlt (mlt hc) hN) (mS hc) rfl (mR1 hc) ?_
  refine ag_iload_1 (q := 26) dX2_grassOn_25 rfl ?_
  refine ag_iald (q := 27) dX2_grassOn_26 rfl (nlt (mlt1 hc) hN) (mA1 hc) ?_
  refine ag_goto (q := 32) dX2_grassOn_27 rfl ?_
  exact ag_iret dX2_grassOn_32 rfl rfl
theorem C_X2_grassOn {N : Nat} (hN : NC ≤ N) (c : Nat) (hc : isM c = true) (a1 : Int32) (σ : Sg) : ∀ r, J_X2_grassOn c a1 σ = some r → AMc yX2_grassOn mX2_grassOn [.ref c, .int a1] N R0 σ (some (.int r), N, R0, σ) := fun r e => AMc.of (L := [some (.ref c), some (.int a1)]) (by decide) rfl (fun _ => rfl) (fun _ => Nat.le_of_ble_eq_true rfl) (Nat.le_refl _) (fun K => A_X2_grassOn K hN c hc a1 σ _ e (Nat.le_refl _))
def J_X2_ramBeside_b11 (c : Nat) : Nat → Int32 → Int32 → Int32 → Int32 → Sg → Option Int32
  | 0, _, _, _, _, _ => none
  | k + 1, x1, x2, x3, x4, σ =>
    (if (σ (lnd c) 3) ≤ x4 then (some (0 : Int32)) else (if (8 : Int32) ≤ x4 then (some (0 : Int32)) else (if x3 ≤ 0 then (some (0 : Int32)) else (if inb x4 8 = true then (if (σ (c + 2) x4.toNatClampNeg) < 0 then (J_X2_ramBeside_b11 c  k x1 x2 x3 (x4 + (1)) σ) else (if inb x4 8 = true then (if (σ (c + 3) x4.toNatClampNeg) = 0 then (if inb x4 8 = true then (if (σ ((lnd c) + 1) x4.toNatClampNeg) = x2 then (if inb x4 8 = true then (if x3 = 0 then none else (if x3 = 0 then none else (if inb x4 8 = true then (if x3 = 0 then none else (if x3 = 0 then none else (if ((absI (((σ (c + 2) x4.toNatClampNeg) / x3) - (x1 / x3))) + (absI ((rmI (σ (c + 2) x4.toNatClampNeg) x3) - (rmI x1 x3)))) = (1 : Int32) then (some (1 : Int32)) else (J_X2_ramBeside_b11 c  k x1 x2 x3 (x4 + (1)) σ)))) else none))) else none) else (J_X2_ramBeside_b11 c  k x1 x2 x3 (x4 + (1)) σ)) else none) else (J_X2_ramBeside_b11 c  k x1 x2 x3 (x4 + (1)) σ)) else none)) else none))))
set_option maxHeartbeats 4000000 in
theorem A_X2_ramBeside_b11 (K : KT) {N : Nat} (hN : NC ≤ N) (c : Nat) (hc : isM c = true) : ∀ (k : Nat) (x1 : Int32) (x2 : Int32) (x3 : Int32) (x4 : Int32) (σ : Sg), AG K mX2_ramBeside N (fun a : Int32 => (some (.int a), N, R0, σ)) (J_X2_ramBeside_b11 c  k x1 x2 x3 x4 σ) 11 [some (.ref c), some (.int x1), some (.int x2), some (.int x3), some (.int x4), none, none] [] σ := by
  intro k
  induction k with
  | zero => intro x1 x2 x3 x4 σ; exact ag_none
  | succ k ih =>
    intro x1 x2 x3 x4 σ
    rw [J_X2_ramBeside_b11]
    refine ag_iload_4 (q := 13) dX2_ramBeside_11 rfl ?_
    refine ag_aload_0 (q := 14) dX2_ramBeside_13 rfl ?_
    refine ag_getR (q := 17) dX2_ramBeside_14 rfl fl2_28 (nlt (mlt hc) hN) (mS hc) rfl (mR0 hc) ?_
    refine ag_getI (q := 20) dX2_ramBeside_17 rfl fl2_43 (nlt (llt (lndL hc)) hN) (lS (lndL hc)) rfl ?_
    refine ag_icmp_ge (tgt := 121) (q := 23) dX2_ramBeside_20 rfl rfl ?_ ?_
    · refine ag_iconst (q := 122) (v := 0) dX2_ramBeside_121 rfl (by decide) ?_
      exact ag_zretK dX2_ramBeside_122 rfl (by decide) rfl
    refine ag_iload_4 (q := 25) dX2_ramBeside_23 rfl ?_
    refine ag_bipush (q := 27) (v := 8) dX2_ramBeside_25 rfl (by decide) ?_
    refine ag_icmp_ge (tgt := 121) (q := 30) dX2_ramBeside_27 rfl rfl ?_ ?_
    · refine ag_iconst (q := 122) (v := 0) dX2_ramBeside_121 rfl (by decide) ?_
      exact ag_zretK dX2_ramBeside_122 rfl (by decide) rfl
    refine ag_iload_3 (q := 31) dX2_ramBeside_30 rfl ?_
    refine ag_if_le (tgt := 121) (q := 34) dX2_ramBeside_31 rfl rfl ?_ ?_
    · refine ag_iconst (q := 122) (v := 0) dX2_ramBeside_121 rfl (by decide) ?_
      exact ag_zretK dX2_ramBeside_122 rfl (by decide) rfl
    refine ag_aload_0 (q := 35) dX2_ramBeside_34 rfl ?_
    refine ag_getR (q := 38) dX2_ramBeside_35 rfl fl2_15 (nlt (mlt hc) hN) (mS hc) rfl (mR2 hc) ?_
    refine ag_iload_4 (q := 40) dX2_ramBeside_38 rfl ?_
    refine ag_iald (q := 41) dX2_ramBeside_40 rfl (nlt (mlt2 hc) hN) (mA2 hc) ?_
    refine ag_if_lt (tgt := 115) (q := 44) dX2_ramBeside_41 rfl rfl ?_ ?_
    · refine ag_iinc_4 (q := 118) (d := (1)) dX2_ramBeside_115 rfl (Nat.le_of_ble_eq_true rfl) rfl (by decide) ?_
      refine ag_goto (q := 11) dX2_ramBeside_118 rfl ?_
      exact ih x1 x2 x3 (x4 + (1)) σ
    refine ag_aload_0 (q := 45) dX2_ramBeside_44 rfl ?_
    refine ag_getR (q := 48) dX2_ramBeside_45 rfl fl2_18 (nlt (mlt hc) hN) (mS hc) rfl (mR3 hc) ?_
    refine ag_iload_4 (q := 50) dX2_ramBeside_48 rfl ?_
    refine ag_iald (q := 51) dX2_ramBeside_50 rfl (nlt (mlt3 hc) hN) (mA3 hc) ?_
    refine ag_if_ne (tgt := 115) (q := 54) dX2_ramBeside_51 rfl rfl ?_ ?_
    · refine ag_iinc_4 (q := 118) (d := (1)) dX2_ramBeside_115 rfl (Nat.le_of_ble_eq_true rfl) rfl (by decide) ?_
      refine ag_goto (q := 11) dX2_ramBeside_118 rfl ?_
      exact ih x1 x2 x3 (x4 + (1)) σ
    refine ag_aload_0 (q := 55) dX2_ramBeside_54 rfl ?_
    refine ag_getR (q := 58) dX2_ramBeside_55 rfl fl2_28 (nlt (mlt hc) hN) (mS hc) rfl (mR0 hc) ?_
    refine ag_getR (q := 61) dX2_ramBeside_58 rfl fl2_87 (nlt (llt (lndL hc)) hN) (lS (lndL hc)) rfl (lR1 (lndL hc)) ?_
    refine ag_iload_4 (q := 63) dX2_ramBeside_61 rfl ?_
    refine ag_iald (q := 64) dX2_ramBeside_63 rfl (nlt (llt1 (lndL hc)) hN) (lA1 (lndL hc)) ?_
    refine ag_iload_2 (q := 65) dX2_ramBeside_64 rfl ?_
    refine ag_icmp_ne (tgt := 115) (q := 68) dX2_ramBeside_65 rfl rfl ?_ ?_
    · refine ag_iinc_4 (q := 118) (d := (1)) dX2_ramBeside_115 rfl (Nat.le_of_ble_eq_true rfl) rfl (by decide) ?_
      refine ag_goto (q := 11) dX2_ramBeside_118 rfl ?_
      exact ih x1 x2 x3 (x4 + (1)) σ
    refine ag_aload_0 (q := 69) dX2_ramBeside_68 rfl ?_
    refine ag_getR (q := 72) dX2_ramBeside_69 rfl fl2_15 (nlt (mlt hc) hN) (mS hc) rfl (mR2 hc) ?_
    refine ag_iload_4 (q := 74) dX2_ramBeside_72 rfl ?_
    refine ag_iald (q := 75) dX2_ramBeside_74 rfl (nlt (mlt2 hc) hN) (mA2 hc) ?_
    refine ag_iload_3 (q := 76) dX2_ramBeside_75 rfl ?_
    refine ag_idiv (q := 77) dX2_ramBeside_76 rfl ?_
    refine ag_iload_1 (q := 78) dX2_ramBeside_77 rfl ?_
    refine ag_iload_3 (q := 79) dX2_ramBeside_78 rfl ?_
    refine ag_idiv (q := 80) dX2_ramBeside_79 rfl ?_
    refine ag_isub (q := 81) dX2_ramBeside_80 rfl ?_
    refine ag_abs (q := 84) dX2_ramBeside_81 rfl ka2_90 (by decide) (Nat.le_of_ble_eq_true rfl) ?_
    refine ag_istore_5 (q := 86) dX2_ramBeside_84 rfl (Nat.le_of_ble_eq_true rfl) rfl ?_
    refine ag_aload_0 (q := 87) dX2_ramBeside_86 rfl ?_
    refine ag_getR (q := 90) dX2_ramBeside_87 rfl fl2_15 (nlt (mlt hc) hN) (mS hc) rfl (mR2 hc) ?_
    refine ag_iload_4 (q := 92) dX2_ramBeside_90 rfl ?_
    refine ag_iald (q := 93) dX2_ramBeside_92 rfl (nlt (mlt2 hc) hN) (mA2 hc) ?_
    refine ag_iload_3 (q := 94) dX2_ramBeside_93 rfl ?_
    refine ag_irem (q := 95) dX2_ramBeside_94 rfl ?_
    refine ag_iload_1 (q := 96) dX2_ramBeside_95 rfl ?_
    refine ag_iload_3 (q := 97) dX2_ramBeside_96 rfl ?_
    refine ag_irem (q := 98) dX2_ramBeside_97 rfl ?_
    refine ag_isub (q := 99) dX2_ramBeside_98 rfl ?_
    refine ag_abs (q := 102) dX2_ramBeside_99 rfl ka2_90 (by decide) (Nat.le_of_ble_eq_true rfl) ?_
    refine ag_istore_6 (q := 104) dX2_ramBeside_102 rfl (Nat.le_of_ble_eq_true rfl) rfl ?_
    refine ag_iload_5 (q := 106) dX2_ramBeside_104 rfl ?_
    refine ag_iload_6 (q := 108) dX2_ramBeside_106 rfl ?_
    refine ag_iadd (q := 109) dX2_ramBeside_108 rfl ?_
    refine ag_iconst (q := 110) (v := 1) dX2_ramBeside_109 rfl (by decide) ?_
    refine ag_icmp_ne (tgt := 115) (q := 113) dX2_ramBeside_110 rfl rfl ?_ ?_
    · refine ag_iinc_4 (q := 118) (d := (1)) dX2_ramBeside_115 rfl (Nat.le_of_ble_eq_true rfl) rfl (by decide) ?_
      refine ag_goto (q := 11) dX2_ramBeside_118 rfl ?_
      refine ag_kill_5 ?_
      refine ag_kill_6 ?_
      exact ih x1 x2 x3 (x4 + (1)) σ
    refine ag_iconst (q := 114) (v := 1) dX2_ramBeside_113 rfl (by decide) ?_
    exact ag_zretK dX2_ramBeside_114 rfl (by decide) rfl
def J_X2_ramBeside (c : Nat) (a1 : Int32) (a2 : Int32) (σ : Sg) : Option Int32 :=
  (J_X2_ramBeside_b11 c  FU a1 a2 (σ (lnd c) 1) (0 : Int32) σ)
set_option maxHeartbeats 4000000 in
theorem A_X2_ramBeside (K : KT) {N : Nat} (hN : NC ≤ N) (c : Nat) (hc : isM c = true) (a1 : Int32) (a2 : Int32) (σ : Sg) : AG K mX2_ramBeside N (fun a : Int32 => (some (.int a), N, R0, σ)) (J_X2_ramBeside c a1 a2 σ) 0 [some (.ref c), some (.int a1), some (.int a2), none, none, none, none] [] σ := by
  unfold J_X2_ramBeside
  refine ag_aload_0 (q := 1) dX2_ramBeside_0 rfl ?_
  refine ag_getR (q := 4) dX2_ramBeside_1 rfl fl2_28 (nlt (mlt hc) hN) (mS hc) rfl (mR0 hc) ?_
  refine ag_getI (q := 7) dX2_ramBeside_4 rfl fl2_84 (nlt (llt (lndL hc)) hN) (lS (lndL hc)) rfl ?_
  refine ag_istore_3 (q := 8) dX2_ramBeside_7 rfl (Nat.le_of_ble_eq_true rfl) rfl ?_
  refine ag_iconst (q := 9) (v := 0) dX2_ramBeside_8 rfl (by decide) ?_
  refine ag_istore_4 (q := 11) dX2_ramBeside_9 rfl (Nat.le_of_ble_eq_true rfl) rfl ?_
  exact A_X2_ramBeside_b11 K hN c hc  FU a1 a2 (σ (lnd c) 1) (0 : Int32) σ
theorem C_X2_ramBeside {N : Nat} (hN : NC ≤ N) (c : Nat) (hc : isM c = true) (a1 : Int32) (a2 : Int32) (σ : Sg) : ∀ r, J_X2_ramBeside c a1 a2 σ = some r → AMc yX2_ramBeside mX2_ramBeside [.ref c, .int a1, .int a2] N R0 σ (some (.int r), N, R0, σ) := fun r e => AMc.of (L := [some (.ref c), some (.int a1), some (.int a2), none, none, none, none]) (by decide) rfl (fun _ => rfl) (fun _ => Nat.le_of_ble_eq_true rfl) (Nat.le_refl _) (fun K => A_X2_ramBeside K hN c hc a1 a2 σ _ e (Nat.le_refl _))
def J_X2_isOpen_b65 (c : Nat) (x1 : Int32) (x2 : Int32) (x4 : Int32) (σ : Sg) : Option Int32 :=
  (bd1 (J_X2_kindOf c x1 σ) fun r67 => (if r67 = (3 : Int32) then (bd1 (J_X2_ramBeside c x2 ((1 : Int32) - x4) σ) fun r80 => (if r80 = 0 then (some (1 : Int32)) else (some (0 : Int32)))) else (some (1 : Int32))))
set_option maxHeartbeats 4000000 in
theorem A_X2_isOpen_b65 (K : KT) {N : Nat} (hN : NC ≤ N) (c : Nat) (hc : isM c = true) (x1 : Int32) (x2 : Int32) (x4 : Int32) (σ : Sg) : AG K mX2_isOpen N (fun a : Int32 => (some (.int a), N, R0, σ)) (J_X2_isOpen_b65 c  x1 x2 x4 σ) 65 [some (.ref c), some (.int x1), some (.int x2), none, some (.int x4), none] [] σ := by
  unfold J_X2_isOpen_b65
  refine ag_aload_0 (q := 66) dX2_isOpen_65 rfl ?_
  refine ag_iload_1 (q := 67) dX2_isOpen_66 rfl ?_
  refine ag_callV_pI (q := 70) (av := [.int _]) (rest := []) dX2_isOpen_67 rfl lk2_57 (C_X2_kindOf hN c hc x1 _) (by decide) (Nat.le_of_ble_eq_true rfl) (nlt (mlt hc) hN) (mS hc) (by decide) (fun _ => rfl) (Nat.le_of_ble_eq_true rfl) rfl (fun r67 e67 => ?_)
  refine ag_iconst (q := 71) (v := 3) dX2_isOpen_70 rfl (by decide) ?_
  refine ag_icmp_ne (tgt := 86) (q := 74) dX2_isOpen_71 rfl rfl ?_ ?_
  · refine ag_iconst (q := 87) (v := 1) dX2_isOpen_86 rfl (by decide) ?_
    refine ag_goto (q := 91) dX2_isOpen_87 rfl ?_
    exact ag_zretK dX2_isOpen_91 rfl (by decide) rfl
  refine ag_aload_0 (q := 75) dX2_isOpen_74 rfl ?_
  refine ag_iload_2 (q := 76) dX2_isOpen_75 rfl ?_
  refine ag_iconst (q := 77) (v := 1) dX2_isOpen_76 rfl (by decide) ?_
  refine ag_iload_4 (q := 79) dX2_isOpen_77 rfl ?_
  refine ag_isub (q := 80) dX2_isOpen_79 rfl ?_
  refine ag_callV_pI (q := 83) (av := [.int _, .int _]) (rest := []) dX2_isOpen_80 rfl lk2_80 (C_X2_ramBeside hN c hc x2 ((1 : Int32) - x4) _) (by decide) (Nat.le_of_ble_eq_true rfl) (nlt (mlt hc) hN) (mS hc) (by decide) (fun _ => rfl) (Nat.le_of_ble_eq_true rfl) rfl (fun r80 e80 => ?_)
  refine ag_if_ne (tgt := 90) (q := 86) dX2_isOpen_83 rfl rfl ?_ ?_
  · refine ag_iconst (q := 91) (v := 0) dX2_isOpen_90 rfl (by decide) ?_
    exact ag_zretK dX2_isOpen_91 rfl (by decide) rfl
  refine ag_iconst (q := 87) (v := 1) dX2_isOpen_86 rfl (by decide) ?_
  refine ag_goto (q := 91) dX2_isOpen_87 rfl ?_
  exact ag_zretK dX2_isOpen_91 rfl (by decide) rfl
def J_X2_isOpen (c : Nat) (a1 : Int32) (a2 : Int32) (a3 : Int32) (σ : Sg) : Option Int32 :=
  (bd1 (J_X2_grassOn c a2 σ) fun r2 => (if r2 = (9 : Int32) then (some (0 : Int32)) else (bd1 (J_X1_villageOf (lnd c) a1 σ) fun r17 => (bd1 (J_X2_occupant c a2 σ) fun r24 => (if r24 = (-4 : Int32) then (J_X2_isOpen_b65 c  a1 a2 r17 σ) else (if a3 = 0 then (bd1 (J_X2_kindOf c a1 σ) fun r42 => (if r42 = (2 : Int32) then (some (0 : Int32)) else (bd1 (J_X1_villageOf (lnd c) r24 σ) fun r55 => (if r55 = r17 then (some (0 : Int32)) else (J_X2_isOpen_b65 c  a1 a2 r17 σ))))) else (some (0 : Int32))))))))
set_option maxHeartbeats 4000000 in
theorem A_X2_isOpen (K : KT) {N : Nat} (hN : NC ≤ N) (c : Nat) (hc : isM c = true) (a1 : Int32) (a2 : Int32) (a3 : Int32) (σ : Sg) : AG K mX2_isOpen N (fun a : Int32 => (some (.int a), N, R0, σ)) (J_X2_isOpen c a1 a2 a3 σ) 0 [some (.ref c), some (.int a1), some (.int a2), some (.int a3), none, none] [] σ := by
  unfold J_X2_isOpen
  refine ag_aload_0 (q := 1) dX2_isOpen_0 rfl ?_
  refine ag_iload_2 (q := 2) dX2_isOpen_1 rfl ?_
  refine ag_callV_pI (q := 5) (av := [.int _]) (rest := []) dX2_isOpen_2 rfl lk2_74 (C_X2_grassOn hN c hc a2 _) (by decide) (Nat.le_of_ble_eq_true rfl) (nlt (mlt hc) hN) (mS hc) (by decide) (fun _ => rfl) (Nat.le_of_ble_eq_true rfl) rfl (fun r2 e2 => ?_)
  refine ag_bipush (q := 7) (v := 9) dX2_isOpen_5 rfl (by decide) ?_
  refine ag_icmp_ne (tgt := 12) (q := 10) dX2_isOpen_7 rfl rfl ?_ ?_
  · refine ag_aload_0 (q := 13) dX2_isOpen_12 rfl ?_
    refine ag_getR (q := 16) dX2_isOpen_13 rfl fl2_28 (nlt (mlt hc) hN) (mS hc) rfl (mR0 hc) ?_
    refine ag_iload_1 (q := 17) dX2_isOpen_16 rfl ?_
    refine ag_callV_pI (q := 20) (av := [.int _]) (rest := []) dX2_isOpen_17 rfl lk2_63 (C_X1_villageOf hN (lnd c) (lndL hc) a1 _) (by decide) (Nat.le_of_ble_eq_true rfl) (nlt (llt (lndL hc)) hN) (lS (lndL hc)) (by decide) (fun _ => rfl) (Nat.le_of_ble_eq_true rfl) rfl (fun r17 e17 => ?_)
    refine ag_istore_4 (q := 22) dX2_isOpen_20 rfl (Nat.le_of_ble_eq_true rfl) rfl ?_
    refine ag_aload_0 (q := 23) dX2_isOpen_22 rfl ?_
    refine ag_iload_2 (q := 24) dX2_isOpen_23 rfl ?_
    refine ag_callV_pI (q := 27) (av := [.int _]) (rest := []) dX2_isOpen_24 rfl lk2_77 (C_X2_occupant hN c hc a2 _) (by decide) (Nat.le_of_ble_eq_true rfl) (nlt (mlt hc) hN) (mS hc) (by decide) (fun _ => rfl) (Nat.le_of_ble_eq_true rfl) rfl (fun r24 e24 => ?_)
    refine ag_istore_5 (q := 29) dX2_isOpen_27 rfl (Nat.le_of_ble_eq_true rfl) rfl ?_
    refine ag_iload_5 (q := 31) dX2_isOpen_29 rfl ?_
    refine ag_bipush (q := 33) (v := -4) dX2_isOpen_31 rfl (by decide) ?_
    refine ag_icmp_eq (tgt := 65) (q := 36) dX2_isOpen_33 rfl rfl ?_ ?_
    · refine ag_kill_3 ?_
      refine ag_kill_5 ?_
      exact A_X2_isOpen_b65 K hN c hc  a1 a2 r17 σ
    refine ag_iload_3 (q := 37) dX2_isOpen_36 rfl ?_
    refine ag_if_ne (tgt := 63) (q := 40) dX2_isOpen_37 rfl rfl ?_ ?_
    · refine ag_iconst (q := 64) (v := 0) dX2_isOpen_63 rfl (by decide) ?_
      exact ag_zretK dX2_isOpen_64 rfl (by decide) rfl
    refine ag_aload_0 (q := 41) dX2_isOpen_40 rfl ?_
    refine ag_iload_1 (q := 42) dX2_isOpen_41 rfl ?_
    refine ag_callV_pI (q := 45) (av := [.int _]) (rest := []) dX2_isOpen_42 rfl lk2_57 (C_X2_kindOf hN c hc a1 _) (by decide) (Nat.le_of_ble_eq_true rfl) (nlt (mlt hc) hN) (mS hc) (by decide) (fun _ => rfl) (Nat.le_of_ble_eq_true rfl) rfl (fun r42 e42 => ?_)
    refine ag_iconst (q := 46) (v := 2) dX2_isOpen_45 rfl (by decide) ?_
    refine ag_icmp_eq (tgt := 63) (q := 49) dX2_isOpen_46 rfl rfl ?_ ?_
    · refine ag_iconst (q := 64) (v := 0) dX2_isOpen_63 rfl (by decide) ?_
      exact ag_zretK dX2_isOpen_64 rfl (by decide) rfl
    refine ag_aload_0 (q := 50) dX2_isOpen_49 rfl ?_
    refine ag_getR (q := 53) dX2_isOpen_50 rfl fl2_28 (nlt (mlt hc) hN) (mS hc) rfl (mR0 hc) ?_
    refine ag_iload_5 (q := 55) dX2_isOpen_53 rfl ?_
    refine ag_callV_pI (q := 58) (av := [.int _]) (rest := []) dX2_isOpen_55 rfl lk2_63 (C_X1_villageOf hN (lnd c) (lndL hc) r24 _) (by decide) (Nat.le_of_ble_eq_true rfl) (nlt (llt (lndL hc)) hN) (lS (lndL hc)) (by decide) (fun _ => rfl) (Nat.le_of_ble_eq_true rfl) rfl (fun r55 e55 => ?_)
    refine ag_iload_4 (q := 60) dX2_isOpen_58 rfl ?_
    refine ag_icmp_ne (tgt := 65) (q := 63) dX2_isOpen_60 rfl rfl ?_ ?_
    · refine ag_kill_3 ?_
      refine ag_kill_5 ?_
      exact A_X2_isOpen_b65 K hN c hc  a1 a2 r17 σ
    refine ag_iconst (q := 64) (v := 0) dX2_isOpen_63 rfl (by decide) ?_
    exact ag_zretK dX2_isOpen_64 rfl (by decide) rfl
  refine ag_iconst (q := 11) (v := 0) dX2_isOpen_10 rfl (by decide) ?_
  exact ag_zretK dX2_isOpen_11 rfl (by decide) rfl
theorem C_X2_isOpen {N : Nat} (hN : NC ≤ N) (c : Nat) (hc : isM c = true) (a1 : Int32) (a2 : Int32) (a3 : Int32) (σ : Sg) : ∀ r, J_X2_isOpen c a1 a2 a3 σ = some r → AMc yX2_isOpen mX2_isOpen [.ref c, .int a1, .int a2, .int a3] N R0 σ (some (.int r), N, R0, σ) := fun r e => AMc.of (L := [some (.ref c), some (.int a1), some (.int a2), some (.int a3), none, none]) (by decide) rfl (fun _ => rfl) (fun _ => Nat.le_of_ble_eq_true rfl) (Nat.le_refl _) (fun K => A_X2_isOpen K hN c hc a1 a2 a3 σ _ e (Nat.le_refl _))
