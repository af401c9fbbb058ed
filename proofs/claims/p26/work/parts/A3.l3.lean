def J_L_rests_b440  (x2 : Int32) (x5 : Int32) (x6 : Int32) (x12 : Int32) (σ : Sg) : Option (Int32 × Sg) :=
  (bd1 (J_L_low x2 (10000 : Int32) σ) fun r445 => (bd1 (J_L_low (x2 >>> ((5 : Int32) &&& 31)) (60 : Int32) σ) fun r454 => (bd2 (J_X7_season r445 ((1 : Int32) + r454) (1 : Int32) σ) fun r459 s459 => (if x12 < 0 then (some ((0 : Int32), s459)) else (if r459 < 0 then (some ((0 : Int32), s459)) else (bd1 (J_X7_count (4 : Int32) s459) fun r478 => (bd1 (J_X7_count (5 : Int32) s459) fun r483 => (if (r478 + r483) < r459 then (some ((0 : Int32), s459)) else (bd2 (J_X7_back  s459) fun r491 s491 => (if r491 < 0 then (some ((0 : Int32), s491)) else (bd2 (J_X7_starves x5 s491) fun r500 s500 => (if r500 = x6 then (some ((1 : Int32), s500)) else (some ((0 : Int32), s500))))))))))))))
set_option maxHeartbeats 4000000 in
theorem A_L_rests_b440 (K : KT) {N : Nat} (hN : NT ≤ N)  (x2 : Int32) (x5 : Int32) (x6 : Int32) (x12 : Int32) (σ : Sg) : AG K mL_rests N (fun a : Int32 × Sg => (some (.int a.1), N, R0, a.2)) (J_L_rests_b440   x2 x5 x6 x12 σ) 440 [some (.ref 0), none, some (.int x2), none, none, some (.int x5), some (.int x6), none, none, none, none, none, some (.int x12), none, none, none, none] [] σ := by
  unfold J_L_rests_b440
  refine ag_aload_0 (q := 441) dL_rests_440 rfl ?_
  refine ag_iload_2 (q := 442) dL_rests_441 rfl ?_
  refine ag_sipush (q := 445) (v := 10000) dL_rests_442 rfl (by decide) ?_
  refine ag_callS_pI (q := 448) (av := [.int _, .int _]) (rest := [.ref _]) dL_rests_445 rfl lkL_29 (C_L_low hN x2 (10000 : Int32) _) (by decide) (Nat.le_of_ble_eq_true rfl) (fun _ => rfl) (Nat.le_of_ble_eq_true rfl) rfl (fun r445 e445 => ?_)
  refine ag_iconst (q := 449) (v := 1) dL_rests_448 rfl (by decide) ?_
  refine ag_iload_2 (q := 450) dL_rests_449 rfl ?_
  refine ag_iconst (q := 451) (v := 5) dL_rests_450 rfl (by decide) ?_
  refine ag_ishr (q := 452) dL_rests_451 rfl ?_
  refine ag_bipush (q := 454) (v := 60) dL_rests_452 rfl (by decide) ?_
  refine ag_callS_pI (q := 457) (av := [.int _, .int _]) (rest := [.int _, .int _, .ref _]) dL_rests_454 rfl lkL_29 (C_L_low hN (x2 >>> ((5 : Int32) &&& 31)) (60 : Int32) _) (by decide) (Nat.le_of_ble_eq_true rfl) (fun _ => rfl) (Nat.le_of_ble_eq_true rfl) rfl (fun r454 e454 => ?_)
  refine ag_iadd (q := 458) dL_rests_457 rfl ?_
  refine ag_iconst (q := 459) (v := 1) dL_rests_458 rfl (by decide) ?_
  refine ag_callV_mI (q := 462) (av := [.int _, .int _, .int _]) (rest := []) dL_rests_459 rfl lkL_105 (C_X7_season (Nat.le_trans (by decide) hN) r445 ((1 : Int32) + r454) (1 : Int32) _) (by decide) (Nat.le_of_ble_eq_true rfl) (Nat.lt_of_lt_of_le (by decide : 0 < NT) hN) (congrArg Prod.fst s_0) (by decide) (fun _ => rfl) (Nat.le_of_ble_eq_true rfl) rfl (fun r459 s459 e459 => ?_)
  refine ag_istore_13 (q := 464) dL_rests_462 rfl (Nat.le_of_ble_eq_true rfl) rfl ?_
  refine ag_iload_12 (q := 466) dL_rests_464 rfl ?_
  refine ag_if_lt (tgt := 512) (q := 469) dL_rests_466 rfl rfl ?_ ?_
  · refine ag_iconst (q := 513) (v := 0) dL_rests_512 rfl (by decide) ?_
    exact ag_zretK dL_rests_513 rfl (by decide) rfl
  refine ag_iload_13 (q := 471) dL_rests_469 rfl ?_
  refine ag_if_lt (tgt := 512) (q := 474) dL_rests_471 rfl rfl ?_ ?_
  · refine ag_iconst (q := 513) (v := 0) dL_rests_512 rfl (by decide) ?_
    exact ag_zretK dL_rests_513 rfl (by decide) rfl
  refine ag_iload_13 (q := 476) dL_rests_474 rfl ?_
  refine ag_aload_0 (q := 477) dL_rests_476 rfl ?_
  refine ag_iconst (q := 478) (v := 4) dL_rests_477 rfl (by decide) ?_
  refine ag_callV_pI (q := 481) (av := [.int _]) (rest := [.int _]) dL_rests_478 rfl lkL_52 (C_X7_count (Nat.le_trans (by decide) hN) (4 : Int32) _) (by decide) (Nat.le_of_ble_eq_true rfl) (Nat.lt_of_lt_of_le (by decide : 0 < NT) hN) (congrArg Prod.fst s_0) (by decide) (fun _ => rfl) (Nat.le_of_ble_eq_true rfl) rfl (fun r478 e478 => ?_)
  refine ag_aload_0 (q := 482) dL_rests_481 rfl ?_
  refine ag_iconst (q := 483) (v := 5) dL_rests_482 rfl (by decide) ?_
  refine ag_callV_pI (q := 486) (av := [.int _]) (rest := [.int _, .int _]) dL_rests_483 rfl lkL_52 (C_X7_count (Nat.le_trans (by decide) hN) (5 : Int32) _) (by decide) (Nat.le_of_ble_eq_true rfl) (Nat.lt_of_lt_of_le (by decide : 0 < NT) hN) (congrArg Prod.fst s_0) (by decide) (fun _ => rfl) (Nat.le_of_ble_eq_true rfl) rfl (fun r483 e483 => ?_)
  refine ag_iadd (q := 487) dL_rests_486 rfl ?_
  refine ag_icmp_gt (tgt := 512) (q := 490) dL_rests_487 rfl rfl ?_ ?_
  · refine ag_iconst (q := 513) (v := 0) dL_rests_512 rfl (by decide) ?_
    exact ag_zretK dL_rests_513 rfl (by decide) rfl
  refine ag_aload_0 (q := 491) dL_rests_490 rfl ?_
  refine ag_callV_mI (q := 494) (av := []) (rest := []) dL_rests_491 rfl lkL_87 (C_X7_back (Nat.le_trans (by decide) hN)  _) (by decide) (Nat.le_of_ble_eq_true rfl) (Nat.lt_of_lt_of_le (by decide : 0 < NT) hN) (congrArg Prod.fst s_0) (by decide) (fun _ => rfl) (Nat.le_of_ble_eq_true rfl) rfl (fun r491 s491 e491 => ?_)
  refine ag_if_lt (tgt := 512) (q := 497) dL_rests_494 rfl rfl ?_ ?_
  · refine ag_iconst (q := 513) (v := 0) dL_rests_512 rfl (by decide) ?_
    exact ag_zretK dL_rests_513 rfl (by decide) rfl
  refine ag_aload_0 (q := 498) dL_rests_497 rfl ?_
  refine ag_iload_5 (q := 500) dL_rests_498 rfl ?_
  refine ag_callV_mI (q := 503) (av := [.int _]) (rest := []) dL_rests_500 rfl lkL_96 (C_X7_starves (Nat.le_trans (by decide) hN) x5 _) (by decide) (Nat.le_of_ble_eq_true rfl) (Nat.lt_of_lt_of_le (by decide : 0 < NT) hN) (congrArg Prod.fst s_0) (by decide) (fun _ => rfl) (Nat.le_of_ble_eq_true rfl) rfl (fun r500 s500 e500 => ?_)
  refine ag_iload_6 (q := 505) dL_rests_503 rfl ?_
  refine ag_icmp_ne (tgt := 512) (q := 508) dL_rests_505 rfl rfl ?_ ?_
  · refine ag_iconst (q := 513) (v := 0) dL_rests_512 rfl (by decide) ?_
    exact ag_zretK dL_rests_513 rfl (by decide) rfl
  refine ag_iconst (q := 509) (v := 1) dL_rests_508 rfl (by decide) ?_
  refine ag_goto (q := 513) dL_rests_509 rfl ?_
  exact ag_zretK dL_rests_513 rfl (by decide) rfl
def J_L_rests_b417  (y329 : Int32 → Int32 → Int32 → Int32 → Int32 → Int32 → Int32 → Sg → Option (Int32 × Sg)) (x2 : Int32) (x3 : Int32) (x4 : Int32) (x5 : Int32) (x6 : Int32) (x12 : Int32) (x13 : Int32) (w0 : Int32) (σ : Sg) : Option (Int32 × Sg) :=
  (if x13 < x6 then (if w0 = (0 : Int32) then (y329 x2 x3 x4 x5 x6 x12 (x13 + (1)) σ) else (some ((0 : Int32), σ))) else (if w0 = (1 : Int32) then (y329 x2 x3 x4 x5 x6 x12 (x13 + (1)) σ) else (some ((0 : Int32), σ))))
set_option maxHeartbeats 4000000 in
theorem A_L_rests_b417 (K : KT) {N : Nat} (hN : NT ≤ N)  (y329 : Int32 → Int32 → Int32 → Int32 → Int32 → Int32 → Int32 → Sg → Option (Int32 × Sg)) (hy329 : ∀ (x2 : Int32) (x3 : Int32) (x4 : Int32) (x5 : Int32) (x6 : Int32) (x12 : Int32) (x13 : Int32) (σ : Sg), AG K mL_rests N (fun a : Int32 × Sg => (some (.int a.1), N, R0, a.2)) (y329 x2 x3 x4 x5 x6 x12 x13 σ) 329 [some (.ref 0), none, some (.int x2), some (.int x3), some (.int x4), some (.int x5), some (.int x6), none, none, none, none, none, some (.int x12), some (.int x13), none, none, none] [] σ) (x2 : Int32) (x3 : Int32) (x4 : Int32) (x5 : Int32) (x6 : Int32) (x12 : Int32) (x13 : Int32) (w0 : Int32) (σ : Sg) : AG K mL_rests N (fun a : Int32 × Sg => (some (.int a.1), N, R0, a.2)) (J_L_rests_b417  y329 x2 x3 x4 x5 x6 x12 x13 w0 σ) 417 [some (.ref 0), none, some (.int x2), some (.int x3), some (.int x4), some (.int x5), some (.int x6), none, none, none, none, none, some (.int x12), some (.int x13), none, none, none] [.int w0] σ := by
  unfold J_L_rests_b417
  refine ag_iload_13 (q := 419) dL_rests_417 rfl ?_
  refine ag_iload_6 (q := 421) dL_rests_419 rfl ?_
  refine ag_icmp_lt (tgt := 428) (q := 424) dL_rests_421 rfl rfl ?_ ?_
  · refine ag_iconst (q := 429) (v := 0) dL_rests_428 rfl (by decide) ?_
    refine ag_icmp_eq (tgt := 434) (q := 432) dL_rests_429 rfl rfl ?_ ?_
    · refine ag_iinc_13 (q := 437) (d := (1)) dL_rests_434 rfl (Nat.le_of_ble_eq_true rfl) rfl (by decide) ?_
      refine ag_goto (q := 329) dL_rests_437 rfl ?_
      exact hy329 x2 x3 x4 x5 x6 x12 (x13 + (1)) σ
    refine ag_iconst (q := 433) (v := 0) dL_rests_432 rfl (by decide) ?_
    exact ag_zretK dL_rests_433 rfl (by decide) rfl
  refine ag_iconst (q := 425) (v := 1) dL_rests_424 rfl (by decide) ?_
  refine ag_goto (q := 429) dL_rests_425 rfl ?_
  refine ag_icmp_eq (tgt := 434) (q := 432) dL_rests_429 rfl rfl ?_ ?_
  · refine ag_iinc_13 (q := 437) (d := (1)) dL_rests_434 rfl (Nat.le_of_ble_eq_true rfl) rfl (by decide) ?_
    refine ag_goto (q := 329) dL_rests_437 rfl ?_
    exact hy329 x2 x3 x4 x5 x6 x12 (x13 + (1)) σ
  refine ag_iconst (q := 433) (v := 0) dL_rests_432 rfl (by decide) ?_
  exact ag_zretK dL_rests_433 rfl (by decide) rfl
def J_L_rests_b397  (y329 : Int32 → Int32 → Int32 → Int32 → Int32 → Int32 → Int32 → Sg → Option (Int32 × Sg)) (x2 : Int32) (x3 : Int32) (x4 : Int32) (x5 : Int32) (x6 : Int32) (x12 : Int32) (x13 : Int32) (σ : Sg) : Option (Int32 × Sg) :=
  (if x6 ≤ 0 then (y329 x2 x3 x4 x5 x6 x12 (x13 + (1)) σ) else (bd1 (J_X7_beast x5 (2 : Int32) σ) fun r406 => (if 0 ≤ r406 then (J_L_rests_b417  y329 x2 x3 x4 x5 x6 x12 x13 (0 : Int32) σ) else (J_L_rests_b417  y329 x2 x3 x4 x5 x6 x12 x13 (1 : Int32) σ))))
set_option maxHeartbeats 4000000 in
theorem A_L_rests_b397 (K : KT) {N : Nat} (hN : NT ≤ N)  (y329 : Int32 → Int32 → Int32 → Int32 → Int32 → Int32 → Int32 → Sg → Option (Int32 × Sg)) (hy329 : ∀ (x2 : Int32) (x3 : Int32) (x4 : Int32) (x5 : Int32) (x6 : Int32) (x12 : Int32) (x13 : Int32) (σ : Sg), AG K mL_rests N (fun a : Int32 × Sg => (some (.int a.1), N, R0, a.2)) (y329 x2 x3 x4 x5 x6 x12 x13 σ) 329 [some (.ref 0), none, some (.int x2), some (.int x3), some (.int x4), some (.int x5), some (.int x6), none, none, none, none, none, some (.int x12), some (.int x13), none, none, none] [] σ) (x2 : Int32) (x3 : Int32) (x4 : Int32) (x5 : Int32) (x6 : Int32) (x12 : Int32) (x13 : Int32) (σ : Sg) : AG K mL_rests N (fun a : Int32 × Sg => (some (.int a.1), N, R0, a.2)) (J_L_rests_b397  y329 x2 x3 x4 x5 x6 x12 x13 σ) 397 [some (.ref 0), none, some (.int x2), some (.int x3), some (.int x4), some (.int x5), some (.int x6), none, none, none, none, none, some (.int x12), some (.int x13), none, none, none] [] σ := by
  unfold J_L_rests_b397
  refine ag_iload_6 (q := 399) dL_rests_397 rfl ?_
  refine ag_if_le (tgt := 434) (q := 402) dL_rests_399 rfl rfl ?_ ?_
  · refine ag_iinc_13 (q := 437) (d := (1)) dL_rests_434 rfl (Nat.le_of_ble_eq_true rfl) rfl (by decide) ?_
    refine ag_goto (q := 329) dL_rests_437 rfl ?_
    exact hy329 x2 x3 x4 x5 x6 x12 (x13 + (1)) σ
  refine ag_aload_0 (q := 403) dL_rests_402 rfl ?_
  refine ag_iload_5 (q := 405) dL_rests_403 rfl ?_
  refine ag_iconst (q := 406) (v := 2) dL_rests_405 rfl (by decide) ?_
  refine ag_callV_pI (q := 409) (av := [.int _, .int _]) (rest := []) dL_rests_406 rfl lkL_49 (C_X7_beast (Nat.le_trans (by decide) hN) x5 (2 : Int32) _) (by decide) (Nat.le_of_ble_eq_true rfl) (Nat.lt_of_lt_of_le (by decide : 0 < NT) hN) (congrArg Prod.fst s_0) (by decide) (fun _ => rfl) (Nat.le_of_ble_eq_true rfl) rfl (fun r406 e406 => ?_)
  refine ag_if_ge (tgt := 416) (q := 412) dL_rests_409 rfl rfl ?_ ?_
  · refine ag_iconst (q := 417) (v := 0) dL_rests_416 rfl (by decide) ?_
    exact A_L_rests_b417 K hN  y329 hy329 x2 x3 x4 x5 x6 x12 x13 (0 : Int32) σ
  refine ag_iconst (q := 413) (v := 1) dL_rests_412 rfl (by decide) ?_
  refine ag_goto (q := 417) dL_rests_413 rfl ?_
  exact A_L_rests_b417 K hN  y329 hy329 x2 x3 x4 x5 x6 x12 x13 (1 : Int32) σ
def J_L_rests_b329  : Nat → Int32 → Int32 → Int32 → Int32 → Int32 → Int32 → Int32 → Sg → Option (Int32 × Sg)
  | 0, _, _, _, _, _, _, _, _ => none
  | k + 1, x2, x3, x4, x5, x6, x12, x13, σ =>
    (if (12 : Int32) ≤ x13 then (J_L_rests_b440   x2 x5 x6 x12 σ) else (bd1 (J_X7_count (7 : Int32) σ) fun r339 => (if r339 = 0 then (bd2 (J_X7_rest  σ) fun r346 s346 => (if (1 : Int32) ≤ r346 then (if x4 ≤ 0 then (if x4 = x13 then (bd1 (J_X7_square x3 (0 : Int32) s346) fun r390 => (if r390 < (1 : Int32) then (some ((0 : Int32), s346)) else (J_L_rests_b397  (fun x2 x3 x4 x5 x6 x12 x13 σ => J_L_rests_b329   k x2 x3 x4 x5 x6 x12 x13 σ) x2 x3 x4 x5 x6 x13 x13 s346))) else (J_L_rests_b397  (fun x2 x3 x4 x5 x6 x12 x13 σ => J_L_rests_b329   k x2 x3 x4 x5 x6 x12 x13 σ) x2 x3 x4 x5 x6 x13 x13 s346)) else (if x4 ≤ x13 then (if x4 = x13 then (bd1 (J_X7_square x3 (0 : Int32) s346) fun r390 => (if r390 < (1 : Int32) then (some ((0 : Int32), s346)) else (J_L_rests_b397  (fun x2 x3 x4 x5 x6 x12 x13 σ => J_L_rests_b329   k x2 x3 x4 x5 x6 x12 x13 σ) x2 x3 x4 x5 x6 x13 x13 s346))) else (J_L_rests_b397  (fun x2 x3 x4 x5 x6 x12 x13 σ => J_L_rests_b329   k x2 x3 x4 x5 x6 x12 x13 σ) x2 x3 x4 x5 x6 x13 x13 s346)) else (bd1 (J_X7_square x3 (0 : Int32) s346) fun r374 => (if 0 < r374 then (some ((0 : Int32), s346)) else (if x4 = x13 then (bd1 (J_X7_square x3 (0 : Int32) s346) fun r390 => (if r390 < (1 : Int32) then (some ((0 : Int32), s346)) else (J_L_rests_b397  (fun x2 x3 x4 x5 x6 x12 x13 σ => J_L_rests_b329   k x2 x3 x4 x5 x6 x12 x13 σ) x2 x3 x4 x5 x6 x13 x13 s346))) else (J_L_rests_b397  (fun x2 x3 x4 x5 x6 x12 x13 σ => J_L_rests_b329   k x2 x3 x4 x5 x6 x12 x13 σ) x2 x3 x4 x5 x6 x13 x13 s346)))))) else (some ((0 : Int32), s346)))) else (J_L_rests_b440   x2 x5 x6 x12 σ))))
set_option maxHeartbeats 4000000 in
theorem A_L_rests_b329 (K : KT) {N : Nat} (hN : NT ≤ N)  : ∀ (k : Nat) (x2 : Int32) (x3 : Int32) (x4 : Int32) (x5 : Int32) (x6 : Int32) (x12 : Int32) (x13 : Int32) (σ : Sg), AG K mL_rests N (fun a : Int32 × Sg => (some (.int a.1), N, R0, a.2)) (J_L_rests_b329   k x2 x3 x4 x5 x6 x12 x13 σ) 329 [some (.ref 0), none, some (.int x2), some (.int x3), some (.int x4), some (.int x5), some (.int x6), none, none, none, none, none, some (.int x12), some (.int x13), none, none, none] [] σ := by
  intro k
  induction k with
  | zero => intro x2 x3 x4 x5 x6 x12 x13 σ; exact ag_none
  | succ k ih =>
    intro x2 x3 x4 x5 x6 x12 x13 σ
    rw [J_L_rests_b329]
    refine ag_iload_13 (q := 331) dL_rests_329 rfl ?_
    refine ag_bipush (q := 333) (v := 12) dL_rests_331 rfl (by decide) ?_
    refine ag_icmp_ge (tgt := 440) (q := 336) dL_rests_333 rfl rfl ?_ ?_
    · refine ag_kill_3 ?_
      refine ag_kill_4 ?_
      refine ag_kill_13 ?_
      exact A_L_rests_b440 K hN   x2 x5 x6 x12 σ
    refine ag_aload_0 (q := 337) dL_rests_336 rfl ?_
    refine ag_bipush (q := 339) (v := 7) dL_rests_337 rfl (by decide) ?_
    refine ag_callV_pI (q := 342) (av := [.int _]) (rest := []) dL_rests_339 rfl lkL_52 (C_X7_count (Nat.le_trans (by decide) hN) (7 : Int32) _) (by decide) (Nat.le_of_ble_eq_true rfl) (Nat.lt_of_lt_of_le (by decide : 0 < NT) hN) (congrArg Prod.fst s_0) (by decide) (fun _ => rfl) (Nat.le_of_ble_eq_true rfl) rfl (fun r339 e339 => ?_)
    refine ag_if_ne (tgt := 440) (q := 345) dL_rests_342 rfl rfl ?_ ?_
    · refine ag_kill_3 ?_
      refine ag_kill_4 ?_
      refine ag_kill_13 ?_
      exact A_L_rests_b440 K hN   x2 x5 x6 x12 σ
    refine ag_aload_0 (q := 346) dL_rests_345 rfl ?_
    refine ag_callV_mI (q := 349) (av := []) (rest := []) dL_rests_346 rfl lkL_84 (C_X7_rest (Nat.le_trans (by decide) hN)  _) (by decide) (Nat.le_of_ble_eq_true rfl) (Nat.lt_of_lt_of_le (by decide : 0 < NT) hN) (congrArg Prod.fst s_0) (by decide) (fun _ => rfl) (Nat.le_of_ble_eq_true rfl) rfl (fun r346 s346 e346 => ?_)
    refine ag_iconst (q := 350) (v := 1) dL_rests_349 rfl (by decide) ?_
    refine ag_icmp_ge (tgt := 355) (q := 353) dL_rests_350 rfl rfl ?_ ?_
    · refine ag_iload_13 (q := 357) dL_rests_355 rfl ?_
      refine ag_istore_12 (q := 359) dL_rests_357 rfl (Nat.le_of_ble_eq_true rfl) rfl ?_
      refine ag_iload_4 (q := 361) dL_rests_359 rfl ?_
      refine ag_if_le (tgt := 380) (q := 364) dL_rests_361 rfl rfl ?_ ?_
      · refine ag_iload_4 (q := 382) dL_rests_380 rfl ?_
        refine ag_iload_13 (q := 384) dL_rests_382 rfl ?_
        refine ag_icmp_ne (tgt := 397) (q := 387) dL_rests_384 rfl rfl ?_ ?_
        · exact A_L_rests_b397 K hN  (fun x2 x3 x4 x5 x6 x12 x13 σ => J_L_rests_b329   k x2 x3 x4 x5 x6 x12 x13 σ) (fun x2 x3 x4 x5 x6 x12 x13 σ => ih x2 x3 x4 x5 x6 x12 x13 σ) x2 x3 x4 x5 x6 x13 x13 s346
        refine ag_aload_0 (q := 388) dL_rests_387 rfl ?_
        refine ag_iload_3 (q := 389) dL_rests_388 rfl ?_
        refine ag_iconst (q := 390) (v := 0) dL_rests_389 rfl (by decide) ?_
        refine ag_callV_pI (q := 393) (av := [.int _, .int _]) (rest := []) dL_rests_390 rfl lkL_46 (C_X7_square (Nat.le_trans (by decide) hN) x3 (0 : Int32) _) (by decide) (Nat.le_of_ble_eq_true rfl) (Nat.lt_of_lt_of_le (by decide : 0 < NT) hN) (congrArg Prod.fst s_0) (by decide) (fun _ => rfl) (Nat.le_of_ble_eq_true rfl) rfl (fun r390 e390 => ?_)
        refine ag_iconst (q := 394) (v := 1) dL_rests_393 rfl (by decide) ?_
        refine ag_icmp_lt (tgt := 432) (q := 397) dL_rests_394 rfl rfl ?_ ?_
        · refine ag_iconst (q := 433) (v := 0) dL_rests_432 rfl (by decide) ?_
          exact ag_zretK dL_rests_433 rfl (by decide) rfl
        exact A_L_rests_b397 K hN  (fun x2 x3 x4 x5 x6 x12 x13 σ => J_L_rests_b329   k x2 x3 x4 x5 x6 x12 x13 σ) (fun x2 x3 x4 x5 x6 x12 x13 σ => ih x2 x3 x4 x5 x6 x12 x13 σ) x2 x3 x4 x5 x6 x13 x13 s346
      refine ag_iload_13 (q := 366) dL_rests_364 rfl ?_
      refine ag_iload_4 (q := 368) dL_rests_366 rfl ?_
      refine ag_icmp_ge (tgt := 380) (q := 371) dL_rests_368 rfl rfl ?_ ?_
      · refine ag_iload_4 (q := 382) dL_rests_380 rfl ?_
        refine ag_iload_13 (q := 384) dL_rests_382 rfl ?_
        refine ag_icmp_ne (tgt := 397) (q := 387) dL_rests_384 rfl rfl ?_ ?_
        · exact A_L_rests_b397 K hN  (fun x2 x3 x4 x5 x6 x12 x13 σ => J_L_rests_b329   k x2 x3 x4 x5 x6 x12 x13 σ) (fun x2 x3 x4 x5 x6 x12 x13 σ => ih x2 x3 x4 x5 x6 x12 x13 σ) x2 x3 x4 x5 x6 x13 x13 s346
        refine ag_aload_0 (q := 388) dL_rests_387 rfl ?_
        refine ag_iload_3 (q := 389) dL_rests_388 rfl ?_
        refine ag_iconst (q := 390) (v := 0) dL_rests_389 rfl (by decide) ?_
        refine ag_callV_pI (q := 393) (av := [.int _, .int _]) (rest := []) dL_rests_390 rfl lkL_46 (C_X7_square (Nat.le_trans (by decide) hN) x3 (0 : Int32) _) (by decide) (Nat.le_of_ble_eq_true rfl) (Nat.lt_of_lt_of_le (by decide : 0 < NT) hN) (congrArg Prod.fst s_0) (by decide) (fun _ => rfl) (Nat.le_of_ble_eq_true rfl) rfl (fun r390 e390 => ?_)
        refine ag_iconst (q := 394) (v := 1) dL_rests_393 rfl (by decide) ?_
        refine ag_icmp_lt (tgt := 432) (q := 397) dL_rests_394 rfl rfl ?_ ?_
        · refine ag_iconst (q := 433) (v := 0) dL_rests_432 rfl (by decide) ?_
          exact ag_zretK dL_rests_433 rfl (by decide) rfl
        exact A_L_rests_b397 K hN  (fun x2 x3 x4 x5 x6 x12 x13 σ => J_L_rests_b329   k x2 x3 x4 x5 x6 x12 x13 σ) (fun x2 x3 x4 x5 x6 x12 x13 σ => ih x2 x3 x4 x5 x6 x12 x13 σ) x2 x3 x4 x5 x6 x13 x13 s346
      refine ag_aload_0 (q := 372) dL_rests_371 rfl ?_
      refine ag_iload_3 (q := 373) dL_rests_372 rfl ?_
      refine ag_iconst (q := 374) (v := 0) dL_rests_373 rfl (by decide) ?_
      refine ag_callV_pI (q := 377) (av := [.int _, .int _]) (rest := []) dL_rests_374 rfl lkL_46 (C_X7_square (Nat.le_trans (by decide) hN) x3 (0 : Int32) _) (by decide) (Nat.le_of_ble_eq_true rfl) (Nat.lt_of_lt_of_le (by decide : 0 < NT) hN) (congrArg Prod.fst s_0) (by decide) (fun _ => rfl) (Nat.le_of_ble_eq_true rfl) rfl (fun r374 e374 => ?_)
      refine ag_if_gt (tgt := 432) (q := 380) dL_rests_377 rfl rfl ?_ ?_
      · refine ag_iconst (q := 433) (v := 0) dL_rests_432 rfl (by decide) ?_
        exact ag_zretK dL_rests_433 rfl (by decide) rfl
      refine ag_iload_4 (q := 382) dL_rests_380 rfl ?_
      refine ag_iload_13 (q := 384) dL_rests_382 rfl ?_
      refine ag_icmp_ne (tgt := 397) (q := 387) dL_rests_384 rfl rfl ?_ ?_
      · exact A_L_rests_b397 K hN  (fun x2 x3 x4 x5 x6 x12 x13 σ => J_L_rests_b329   k x2 x3 x4 x5 x6 x12 x13 σ) (fun x2 x3 x4 x5 x6 x12 x13 σ => ih x2 x3 x4 x5 x6 x12 x13 σ) x2 x3 x4 x5 x6 x13 x13 s346
      refine ag_aload_0 (q := 388) dL_rests_387 rfl ?_
      refine ag_iload_3 (q := 389) dL_rests_388 rfl ?_
      refine ag_iconst (q := 390) (v := 0) dL_rests_389 rfl (by decide) ?_
      refine ag_callV_pI (q := 393) (av := [.int _, .int _]) (rest := []) dL_rests_390 rfl lkL_46 (C_X7_square (Nat.le_trans (by decide) hN) x3 (0 : Int32) _) (by decide) (Nat.le_of_ble_eq_true rfl) (Nat.lt_of_lt_of_le (by decide : 0 < NT) hN) (congrArg Prod.fst s_0) (by decide) (fun _ => rfl) (Nat.le_of_ble_eq_true rfl) rfl (fun r390 e390 => ?_)
      refine ag_iconst (q := 394) (v := 1) dL_rests_393 rfl (by decide) ?_
      refine ag_icmp_lt (tgt := 432) (q := 397) dL_rests_394 rfl rfl ?_ ?_
      · refine ag_iconst (q := 433) (v := 0) dL_rests_432 rfl (by decide) ?_
        exact ag_zretK dL_rests_433 rfl (by decide) rfl
      exact A_L_rests_b397 K hN  (fun x2 x3 x4 x5 x6 x12 x13 σ => J_L_rests_b329   k x2 x3 x4 x5 x6 x12 x13 σ) (fun x2 x3 x4 x5 x6 x12 x13 σ => ih x2 x3 x4 x5 x6 x12 x13 σ) x2 x3 x4 x5 x6 x13 x13 s346
    refine ag_iconst (q := 354) (v := 0) dL_rests_353 rfl (by decide) ?_
    exact ag_zretK dL_rests_354 rfl (by decide) rfl
def J_L_rests_b277  (y183 : Int32 → Int32 → Int32 → Int32 → Int32 → Int32 → Int64 → Int64 → Int32 → Sg → Option (Int32 × Sg)) (x2 : Int32) (x3 : Int32) (x4 : Int32) (x5 : Int32) (x6 : Int32) (x7 : Int32) (x12 : Int32) (x13 : Int64) (x15 : Int64) (σ : Sg) : Option (Int32 × Sg) :=
  (bd2 (J_X7_wolves x5 x12 (0 : Int32) (0 : Int32) σ) fun r284 s284 => (if x6 ≤ 0 then (if r284 = (1 : Int32) then (y183 x2 x3 x4 x5 x6 x7 x13 x15 (x12 + (1)) s284) else (some ((0 : Int32), s284))) else (if x12 < x6 then (if r284 = (1 : Int32) then (y183 x2 x3 x4 x5 x6 x7 x13 x15 (x12 + (1)) s284) else (some ((0 : Int32), s284))) else (if r284 = (0 : Int32) then (y183 x2 x3 x4 x5 x6 x7 x13 x15 (x12 + (1)) s284) else (some ((0 : Int32), s284))))))
set_option maxHeartbeats 4000000 in
theorem A_L_rests_b277 (K : KT) {N : Nat} (hN : NT ≤ N)  (y183 : Int32 → Int32 → Int32 → Int32 → Int32 → Int32 → Int64 → Int64 → Int32 → Sg → Option (Int32 × Sg)) (hy183 : ∀ (x2 : Int32) (x3 : Int32) (x4 : Int32) (x5 : Int32) (x6 : Int32) (x7 : Int32) (x8 : Int64) (x10 : Int64) (x12 : Int32) (σ : Sg), AG K mL_rests N (fun a : Int32 × Sg => (some (.int a.1), N, R0, a.2)) (y183 x2 x3 x4 x5 x6 x7 x8 x10 x12 σ) 183 [some (.ref 0), none, some (.int x2), some (.int x3), some (.int x4), some (.int x5), some (.int x6), some (.int x7), some (.long x8), none, some (.long x10), none, some (.int x12), none, none, none, none] [] σ) (x2 : Int32) (x3 : Int32) (x4 : Int32) (x5 : Int32) (x6 : Int32) (x7 : Int32) (x12 : Int32) (x13 : Int64) (x15 : Int64) (σ : Sg) : AG K mL_rests N (fun a : Int32 × Sg => (some (.int a.1), N, R0, a.2)) (J_L_rests_b277  y183 x2 x3 x4 x5 x6 x7 x12 x13 x15 σ) 277 [some (.ref 0), none, some (.int x2), some (.int x3), some (.int x4), some (.int x5), some (.int x6), some (.int x7), none, none, none, none, some (.int x12), some (.long x13), none, some (.long x15), none] [] σ := by
  unfold J_L_rests_b277
  refine ag_aload_0 (q := 278) dL_rests_277 rfl ?_
  refine ag_iload_5 (q := 280) dL_rests_278 rfl ?_
  refine ag_iload_12 (q := 282) dL_rests_280 rfl ?_
  refine ag_iconst (q := 283) (v := 0) dL_rests_282 rfl (by decide) ?_
  refine ag_iconst (q := 284) (v := 0) dL_rests_283 rfl (by decide) ?_
  refine ag_callV_mI (q := 287) (av := [.int _, .int _, .int _, .int _]) (rest := []) dL_rests_284 rfl lkL_99 (C_X7_wolves (Nat.le_trans (by decide) hN) x5 x12 (0 : Int32) (0 : Int32) _) (by decide) (Nat.le_of_ble_eq_true rfl) (Nat.lt_of_lt_of_le (by decide : 0 < NT) hN) (congrArg Prod.fst s_0) (by decide) (fun _ => rfl) (Nat.le_of_ble_eq_true rfl) rfl (fun r284 s284 e284 => ?_)
  refine ag_iload_6 (q := 289) dL_rests_287 rfl ?_
  refine ag_if_le (tgt := 303) (q := 292) dL_rests_289 rfl rfl ?_ ?_
  · refine ag_iconst (q := 304) (v := 1) dL_rests_303 rfl (by decide) ?_
    refine ag_icmp_eq (tgt := 309) (q := 307) dL_rests_304 rfl rfl ?_ ?_
    · refine ag_lload_13 (q := 311) dL_rests_309 rfl ?_
      refine ag_lstore_8 (q := 313) dL_rests_311 rfl (Nat.le_of_ble_eq_true rfl) rfl ?_
      refine ag_lload_15 (q := 315) dL_rests_313 rfl ?_
      refine ag_lstore_10 (q := 317) dL_rests_315 rfl (Nat.le_of_ble_eq_true rfl) rfl ?_
      refine ag_iinc_12 (q := 320) (d := (1)) dL_rests_317 rfl (Nat.le_of_ble_eq_true rfl) rfl (by decide) ?_
      refine ag_goto (q := 183) dL_rests_320 rfl ?_
      refine ag_kill_13 ?_
      refine ag_kill_15 ?_
      exact hy183 x2 x3 x4 x5 x6 x7 x13 x15 (x12 + (1)) s284
    refine ag_iconst (q := 308) (v := 0) dL_rests_307 rfl (by decide) ?_
    exact ag_zretK dL_rests_308 rfl (by decide) rfl
  refine ag_iload_6 (q := 294) dL_rests_292 rfl ?_
  refine ag_iload_12 (q := 296) dL_rests_294 rfl ?_
  refine ag_icmp_gt (tgt := 303) (q := 299) dL_rests_296 rfl rfl ?_ ?_
  · refine ag_iconst (q := 304) (v := 1) dL_rests_303 rfl (by decide) ?_
    refine ag_icmp_eq (tgt := 309) (q := 307) dL_rests_304 rfl rfl ?_ ?_
    · refine ag_lload_13 (q := 311) dL_rests_309 rfl ?_
      refine ag_lstore_8 (q := 313) dL_rests_311 rfl (Nat.le_of_ble_eq_true rfl) rfl ?_
      refine ag_lload_15 (q := 315) dL_rests_313 rfl ?_
      refine ag_lstore_10 (q := 317) dL_rests_315 rfl (Nat.le_of_ble_eq_true rfl) rfl ?_
      refine ag_iinc_12 (q := 320) (d := (1)) dL_rests_317 rfl (Nat.le_of_ble_eq_true rfl) rfl (by decide) ?_
      refine ag_goto (q := 183) dL_rests_320 rfl ?_
      refine ag_kill_13 ?_
      refine ag_kill_15 ?_
      exact hy183 x2 x3 x4 x5 x6 x7 x13 x15 (x12 + (1)) s284
    refine ag_iconst (q := 308) (v := 0) dL_rests_307 rfl (by decide) ?_
    exact ag_zretK dL_rests_308 rfl (by decide) rfl
  refine ag_iconst (q := 300) (v := 0) dL_rests_299 rfl (by decide) ?_
  refine ag_goto (q := 304) dL_rests_300 rfl ?_
  refine ag_icmp_eq (tgt := 309) (q := 307) dL_rests_304 rfl rfl ?_ ?_
  · refine ag_lload_13 (q := 311) dL_rests_309 rfl ?_
    refine ag_lstore_8 (q := 313) dL_rests_311 rfl (Nat.le_of_ble_eq_true rfl) rfl ?_
    refine ag_lload_15 (q := 315) dL_rests_313 rfl ?_
    refine ag_lstore_10 (q := 317) dL_rests_315 rfl (Nat.le_of_ble_eq_true rfl) rfl ?_
    refine ag_iinc_12 (q := 320) (d := (1)) dL_rests_317 rfl (Nat.le_of_ble_eq_true rfl) rfl (by decide) ?_
    refine ag_goto (q := 183) dL_rests_320 rfl ?_
    refine ag_kill_13 ?_
    refine ag_kill_15 ?_
    exact hy183 x2 x3 x4 x5 x6 x7 x13 x15 (x12 + (1)) s284
  refine ag_iconst (q := 308) (v := 0) dL_rests_307 rfl (by decide) ?_
  exact ag_zretK dL_rests_308 rfl (by decide) rfl
def J_L_rests_b183  : Nat → Int32 → Int32 → Int32 → Int32 → Int32 → Int32 → Int64 → Int64 → Int32 → Sg → Option (Int32 × Sg)
  | 0, _, _, _, _, _, _, _, _, _, _ => none
  | k + 1, x2, x3, x4, x5, x6, x7, x8, x10, x12, σ =>
    (if (5 : Int32) ≤ x12 then (J_L_rests_b329   FU x2 x3 x4 x5 x6 (0 : Int32) (1 : Int32) σ) else (if x6 = (-2 : Int32) then (J_L_rests_b329   FU x2 x3 x4 x5 x6 (0 : Int32) (1 : Int32) σ) else (bd2 (J_X7_wolves x5 x12 x7 (0 : Int32) σ) fun r204 s204 => (bd2 (J_X7_wolves x5 x12 x7 (1 : Int32) s204) fun r218 s218 => (if (lg_cmp (r204.toInt64) (0 : Int64)) < 0 then (some ((0 : Int32), s218)) else (if 0 < (lg_cmp (r204.toInt64) (r218.toInt64)) then (some ((0 : Int32), s218)) else (if (r218.toInt64) = 0 then none else (if (lg_cmp (rmL (100000 : Int64) (r218.toInt64)) (0 : Int64)) = 0 then (if 0 < (lg_cmp ((r204.toInt64) * x10) (x8 * (r218.toInt64))) then (some ((0 : Int32), s218)) else (if x12 = 0 then (if (lg_cmp (r204.toInt64) (r218.toInt64)) = 0 then (J_L_rests_b277  (fun x2 x3 x4 x5 x6 x7 x8 x10 x12 σ => J_L_rests_b183   k x2 x3 x4 x5 x6 x7 x8 x10 x12 σ) x2 x3 x4 x5 x6 x7 x12 (r204.toInt64) (r218.toInt64) s218) else (some ((0 : Int32), s218))) else (J_L_rests_b277  (fun x2 x3 x4 x5 x6 x7 x8 x10 x12 σ => J_L_rests_b183   k x2 x3 x4 x5 x6 x7 x8 x10 x12 σ) x2 x3 x4 x5 x6 x7 x12 (r204.toInt64) (r218.toInt64) s218))) else (some ((0 : Int32), s218))))))))))
set_option maxHeartbeats 4000000 in
theorem A_L_rests_b183 (K : KT) {N : Nat} (hN : NT ≤ N)  : ∀ (k : Nat) (x2 : Int32) (x3 : Int32) (x4 : Int32) (x5 : Int32) (x6 : Int32) (x7 : Int32) (x8 : Int64) (x10 : Int64) (x12 : Int32) (σ : Sg), AG K mL_rests N (fun a : Int32 × Sg => (some (.int a.1), N, R0, a.2)) (J_L_rests_b183   k x2 x3 x4 x5 x6 x7 x8 x10 x12 σ) 183 [some (.ref 0), none, some (.int x2), some (.int x3), some (.int x4), some (.int x5), some (.int x6), some (.int x7), some (.long x8), none, some (.long x10), none, some (.int x12), none, none, none, none] [] σ := by
  intro k
  induction k with
  | zero => intro x2 x3 x4 x5 x6 x7 x8 x10 x12 σ; exact ag_none
  | succ k ih =>
    intro x2 x3 x4 x5 x6 x7 x8 x10 x12 σ
    rw [J_L_rests_b183]
    refine ag_iload_12 (q := 185) dL_rests_183 rfl ?_
    refine ag_iconst (q := 186) (v := 5) dL_rests_185 rfl (by decide) ?_
    refine ag_icmp_ge (tgt := 323) (q := 189) dL_rests_186 rfl rfl ?_ ?_
    · refine ag_iconst (q := 324) (v := 0) dL_rests_323 rfl (by decide) ?_
      refine ag_istore_12 (q := 326) dL_rests_324 rfl (Nat.le_of_ble_eq_true rfl) rfl ?_
      refine ag_iconst (q := 327) (v := 1) dL_rests_326 rfl (by decide) ?_
      refine ag_istore_13 (q := 329) dL_rests_327 rfl (Nat.le_of_ble_eq_true rfl) rfl ?_
      refine ag_kill_7 ?_
      refine ag_kill_8 ?_
      refine ag_kill_10 ?_
      exact A_L_rests_b329 K hN   FU x2 x3 x4 x5 x6 (0 : Int32) (1 : Int32) σ
    refine ag_iload_6 (q := 191) dL_rests_189 rfl ?_
    refine ag_bipush (q := 193) (v := -2) dL_rests_191 rfl (by decide) ?_
    refine ag_icmp_eq (tgt := 323) (q := 196) dL_rests_193 rfl rfl ?_ ?_
    · refine ag_iconst (q := 324) (v := 0) dL_rests_323 rfl (by decide) ?_
      refine ag_istore_12 (q := 326) dL_rests_324 rfl (Nat.le_of_ble_eq_true rfl) rfl ?_
      refine ag_iconst (q := 327) (v := 1) dL_rests_326 rfl (by decide) ?_
      refine ag_istore_13 (q := 329) dL_rests_327 rfl (Nat.le_of_ble_eq_true rfl) rfl ?_
      refine ag_kill_7 ?_
      refine ag_kill_8 ?_
      refine ag_kill_10 ?_
      exact A_L_rests_b329 K hN   FU x2 x3 x4 x5 x6 (0 : Int32) (1 : Int32) σ
    refine ag_aload_0 (q := 197) dL_rests_196 rfl ?_
    refine ag_iload_5 (q := 199) dL_rests_197 rfl ?_
    refine ag_iload_12 (q := 201) dL_rests_199 rfl ?_
    refine ag_iload_7 (q := 203) dL_rests_201 rfl ?_
    refine ag_iconst (q := 204) (v := 0) dL_rests_203 rfl (by decide) ?_
    refine ag_callV_mI (q := 207) (av := [.int _, .int _, .int _, .int _]) (rest := []) dL_rests_204 rfl lkL_99 (C_X7_wolves (Nat.le_trans (by decide) hN) x5 x12 x7 (0 : Int32) _) (by decide) (Nat.le_of_ble_eq_true rfl) (Nat.lt_of_lt_of_le (by decide : 0 < NT) hN) (congrArg Prod.fst s_0) (by decide) (fun _ => rfl) (Nat.le_of_ble_eq_true rfl) rfl (fun r204 s204 e204 => ?_)
    refine ag_i2l (q := 208) dL_rests_207 rfl ?_
    refine ag_lstore_13 (q := 210) dL_rests_208 rfl (Nat.le_of_ble_eq_true rfl) rfl ?_
    refine ag_aload_0 (q := 211) dL_rests_210 rfl ?_
    refine ag_iload_5 (q := 213) dL_rests_211 rfl ?_
    refine ag_iload_12 (q := 215) dL_rests_213 rfl ?_
    refine ag_iload_7 (q := 217) dL_rests_215 rfl ?_
    refine ag_iconst (q := 218) (v := 1) dL_rests_217 rfl (by decide) ?_
    refine ag_callV_mI (q := 221) (av := [.int _, .int _, .int _, .int _]) (rest := []) dL_rests_218 rfl lkL_99 (C_X7_wolves (Nat.le_trans (by decide) hN) x5 x12 x7 (1 : Int32) _) (by decide) (Nat.le_of_ble_eq_true rfl) (Nat.lt_of_lt_of_le (by decide : 0 < NT) hN) (congrArg Prod.fst s_0) (by decide) (fun _ => rfl) (Nat.le_of_ble_eq_true rfl) rfl (fun r218 s218 e218 => ?_)
    refine ag_i2l (q := 222) dL_rests_221 rfl ?_
    refine ag_lstore_15 (q := 224) dL_rests_222 rfl (Nat.le_of_ble_eq_true rfl) rfl ?_
    refine ag_lload_13 (q := 226) dL_rests_224 rfl ?_
    refine ag_lconst (q := 227) (v := 0) dL_rests_226 rfl (by decide) ?_
    refine ag_lcmp (q := 228) dL_rests_227 rfl ?_
    refine ag_if_lt (tgt := 307) (q := 231) dL_rests_228 rfl rfl ?_ ?_
    · refine ag_iconst (q := 308) (v := 0) dL_rests_307 rfl (by decide) ?_
      exact ag_zretK dL_rests_308 rfl (by decide) rfl
    refine ag_lload_13 (q := 233) dL_rests_231 rfl ?_
    refine ag_lload_15 (q := 235) dL_rests_233 rfl ?_
    refine ag_lcmp (q := 236) dL_rests_235 rfl ?_
    refine ag_if_gt (tgt := 307) (q := 239) dL_rests_236 rfl rfl ?_ ?_
    · refine ag_iconst (q := 308) (v := 0) dL_rests_307 rfl (by decide) ?_
      exact ag_zretK dL_rests_308 rfl (by decide) rfl
    refine ag_ldc2 (q := 242) dL_rests_239 rfl kcL_103 ?_
    refine ag_lload_15 (q := 244) dL_rests_242 rfl ?_
    refine ag_lrem (q := 245) dL_rests_244 rfl ?_
    refine ag_lconst (q := 246) (v := 0) dL_rests_245 rfl (by decide) ?_
    refine ag_lcmp (q := 247) dL_rests_246 rfl ?_
    refine ag_if_ne (tgt := 307) (q := 250) dL_rests_247 rfl rfl ?_ ?_
    · refine ag_iconst (q := 308) (v := 0) dL_rests_307 rfl (by decide) ?_
      exact ag_zretK dL_rests_308 rfl (by decide) rfl
    refine ag_lload_13 (q := 252) dL_rests_250 rfl ?_
    refine ag_lload_10 (q := 254) dL_rests_252 rfl ?_
    refine ag_lmul (q := 255) dL_rests_254 rfl ?_
    refine ag_lload_8 (q := 257) dL_rests_255 rfl ?_
    refine ag_lload_15 (q := 259) dL_rests_257 rfl ?_
    refine ag_lmul (q := 260) dL_rests_259 rfl ?_
    refine ag_lcmp (q := 261) dL_rests_260 rfl ?_
    refine ag_if_gt (tgt := 307) (q := 264) dL_rests_261 rfl rfl ?_ ?_
    · refine ag_iconst (q := 308) (v := 0) dL_rests_307 rfl (by decide) ?_
      exact ag_zretK dL_rests_308 rfl (by decide) rfl
    refine ag_iload_12 (q := 266) dL_rests_264 rfl ?_
    refine ag_if_ne (tgt := 277) (q := 269) dL_rests_266 rfl rfl ?_ ?_
    · refine ag_kill_8 ?_
      refine ag_kill_10 ?_
      exact A_L_rests_b277 K hN  (fun x2 x3 x4 x5 x6 x7 x8 x10 x12 σ => J_L_rests_b183   k x2 x3 x4 x5 x6 x7 x8 x10 x12 σ) (fun x2 x3 x4 x5 x6 x7 x8 x10 x12 σ => ih x2 x3 x4 x5 x6 x7 x8 x10 x12 σ) x2 x3 x4 x5 x6 x7 x12 (r204.toInt64) (r218.toInt64) s218
    refine ag_lload_13 (q := 271) dL_rests_269 rfl ?_
    refine ag_lload_15 (q := 273) dL_rests_271 rfl ?_
    refine ag_lcmp (q := 274) dL_rests_273 rfl ?_
    refine ag_if_ne (tgt := 307) (q := 277) dL_rests_274 rfl rfl ?_ ?_
    · refine ag_iconst (q := 308) (v := 0) dL_rests_307 rfl (by decide) ?_
      exact ag_zretK dL_rests_308 rfl (by decide) rfl
    refine ag_kill_8 ?_
    refine ag_kill_10 ?_
    exact A_L_rests_b277 K hN  (fun x2 x3 x4 x5 x6 x7 x8 x10 x12 σ => J_L_rests_b183   k x2 x3 x4 x5 x6 x7 x8 x10 x12 σ) (fun x2 x3 x4 x5 x6 x7 x8 x10 x12 σ => ih x2 x3 x4 x5 x6 x7 x8 x10 x12 σ) x2 x3 x4 x5 x6 x7 x12 (r204.toInt64) (r218.toInt64) s218
def J_L_rests_b148  (x2 : Int32) (x3 : Int32) (x4 : Int32) (x5 : Int32) (x6 : Int32) (x7 : Int32) (x8 : Int64) (x10 : Int64) (w0 : Int32) (w1 : Int32) (σ : Sg) : Option (Int32 × Sg) :=
  (if w1 = w0 then (if x6 = 0 then (some ((0 : Int32), σ)) else (if (60 : Int32) < x6 then (some ((0 : Int32), σ)) else (if (60 : Int32) < x4 then (some ((0 : Int32), σ)) else (bd2 (J_X7_keep  σ) fun r171 s171 => (if (1 : Int32) ≤ r171 then (J_L_rests_b183   FU x2 x3 x4 x5 x6 x7 x8 x10 (0 : Int32) s171) else (some ((0 : Int32), s171))))))) else (some ((0 : Int32), σ)))
set_option maxHeartbeats 4000000 in
theorem A_L_rests_b148 (K : KT) {N : Nat} (hN : NT ≤ N)  (x2 : Int32) (x3 : Int32) (x4 : Int32) (x5 : Int32) (x6 : Int32) (x7 : Int32) (x8 : Int64) (x10 : Int64) (w0 : Int32) (w1 : Int32) (σ : Sg) : AG K mL_rests N (fun a : Int32 × Sg => (some (.int a.1), N, R0, a.2)) (J_L_rests_b148   x2 x3 x4 x5 x6 x7 x8 x10 w0 w1 σ) 148 [some (.ref 0), none, some (.int x2), some (.int x3), some (.int x4), some (.int x5), some (.int x6), some (.int x7), some (.long x8), none, some (.long x10), none, none, none, none, none, none] [.int w0, .int w1] σ := by
  unfold J_L_rests_b148
  refine ag_icmp_ne (tgt := 178) (q := 151) dL_rests_148 rfl rfl ?_ ?_
  · refine ag_iconst (q := 179) (v := 0) dL_rests_178 rfl (by decide) ?_
    exact ag_zretK dL_rests_179 rfl (by decide) rfl
  refine ag_iload_6 (q := 153) dL_rests_151 rfl ?_
  refine ag_if_eq (tgt := 178) (q := 156) dL_rests_153 rfl rfl ?_ ?_
  · refine ag_iconst (q := 179) (v := 0) dL_rests_178 rfl (by decide) ?_
    exact ag_zretK dL_rests_179 rfl (by decide) rfl
  refine ag_iload_6 (q := 158) dL_rests_156 rfl ?_
  refine ag_bipush (q := 160) (v := 60) dL_rests_158 rfl (by decide) ?_
  refine ag_icmp_gt (tgt := 178) (q := 163) dL_rests_160 rfl rfl ?_ ?_
  · refine ag_iconst (q := 179) (v := 0) dL_rests_178 rfl (by decide) ?_
    exact ag_zretK dL_rests_179 rfl (by decide) rfl
  refine ag_iload_4 (q := 165) dL_rests_163 rfl ?_
  refine ag_bipush (q := 167) (v := 60) dL_rests_165 rfl (by decide) ?_
  refine ag_icmp_gt (tgt := 178) (q := 170) dL_rests_167 rfl rfl ?_ ?_
  · refine ag_iconst (q := 179) (v := 0) dL_rests_178 rfl (by decide) ?_
    exact ag_zretK dL_rests_179 rfl (by decide) rfl
  refine ag_aload_0 (q := 171) dL_rests_170 rfl ?_
  refine ag_callV_mI (q := 174) (av := []) (rest := []) dL_rests_171 rfl lkL_81 (C_X7_keep (Nat.le_trans (by decide) hN)  _) (by decide) (Nat.le_of_ble_eq_true rfl) (Nat.lt_of_lt_of_le (by decide : 0 < NT) hN) (congrArg Prod.fst s_0) (by decide) (fun _ => rfl) (Nat.le_of_ble_eq_true rfl) rfl (fun r171 s171 e171 => ?_)
  refine ag_iconst (q := 175) (v := 1) dL_rests_174 rfl (by decide) ?_
  refine ag_icmp_ge (tgt := 180) (q := 178) dL_rests_175 rfl rfl ?_ ?_
  · refine ag_iconst (q := 181) (v := 0) dL_rests_180 rfl (by decide) ?_
    refine ag_istore_12 (q := 183) dL_rests_181 rfl (Nat.le_of_ble_eq_true rfl) rfl ?_
    exact A_L_rests_b183 K hN   FU x2 x3 x4 x5 x6 x7 x8 x10 (0 : Int32) s171
  refine ag_iconst (q := 179) (v := 0) dL_rests_178 rfl (by decide) ?_
  exact ag_zretK dL_rests_179 rfl (by decide) rfl
def J_L_rests_b118  (x2 : Int32) (x3 : Int32) (x4 : Int32) (x5 : Int32) (x6 : Int32) (x7 : Int32) (x8 : Int64) (x10 : Int64) (w0 : Int32) (w1 : Int32) (σ : Sg) : Option (Int32 × Sg) :=
  (if w1 = w0 then (if x6 = (-2 : Int32) then (bd1 (J_X7_beast x5 (2 : Int32) σ) fun r137 => (if 0 ≤ r137 then (J_L_rests_b148   x2 x3 x4 x5 x6 x7 x8 x10 (0 : Int32) (1 : Int32) σ) else (J_L_rests_b148   x2 x3 x4 x5 x6 x7 x8 x10 (1 : Int32) (1 : Int32) σ))) else (bd1 (J_X7_beast x5 (2 : Int32) σ) fun r137 => (if 0 ≤ r137 then (J_L_rests_b148   x2 x3 x4 x5 x6 x7 x8 x10 (0 : Int32) (0 : Int32) σ) else (J_L_rests_b148   x2 x3 x4 x5 x6 x7 x8 x10 (1 : Int32) (0 : Int32) σ)))) else (some ((0 : Int32), σ)))
set_option maxHeartbeats 4000000 in
theorem A_L_rests_b118 (K : KT) {N : Nat} (hN : NT ≤ N)  (x2 : Int32) (x3 : Int32) (x4 : Int32) (x5 : Int32) (x6 : Int32) (x7 : Int32) (x8 : Int64) (x10 : Int64) (w0 : Int32) (w1 : Int32) (σ : Sg) : AG K mL_rests N (fun a : Int32 × Sg => (some (.int a.1), N, R0, a.2)) (J_L_rests_b118   x2 x3 x4 x5 x6 x7 x8 x10 w0 w1 σ) 118 [some (.ref 0), none, some (.int x2), some (.int x3), some (.int x4), some (.int x5), some (.int x6), some (.int x7), some (.long x8), none, some (.long x10), none, none, none, none, none, none] [.int w0, .int w1] σ := by
  unfold J_L_rests_b118
  refine ag_icmp_ne (tgt := 178) (q := 121) dL_rests_118 rfl rfl ?_ ?_
  · refine ag_iconst (q := 179) (v := 0) dL_rests_178 rfl (by decide) ?_
    exact ag_zretK dL_rests_179 rfl (by decide) rfl
  refine ag_iload_6 (q := 123) dL_rests_121 rfl ?_
  refine ag_bipush (q := 125) (v := -2) dL_rests_123 rfl (by decide) ?_
  refine ag_icmp_ne (tgt := 132) (q := 128) dL_rests_125 rfl rfl ?_ ?_
  · refine ag_iconst (q := 133) (v := 0) dL_rests_132 rfl (by decide) ?_
    refine ag_aload_0 (q := 134) dL_rests_133 rfl ?_
    refine ag_iload_5 (q := 136) dL_rests_134 rfl ?_
    refine ag_iconst (q := 137) (v := 2) dL_rests_136 rfl (by decide) ?_
    refine ag_callV_pI (q := 140) (av := [.int _, .int _]) (rest := [.int _]) dL_rests_137 rfl lkL_49 (C_X7_beast (Nat.le_trans (by decide) hN) x5 (2 : Int32) _) (by decide) (Nat.le_of_ble_eq_true rfl) (Nat.lt_of_lt_of_le (by decide : 0 < NT) hN) (congrArg Prod.fst s_0) (by decide) (fun _ => rfl) (Nat.le_of_ble_eq_true rfl) rfl (fun r137 e137 => ?_)
    refine ag_if_ge (tgt := 147) (q := 143) dL_rests_140 rfl rfl ?_ ?_
    · refine ag_iconst (q := 148) (v := 0) dL_rests_147 rfl (by decide) ?_
      exact A_L_rests_b148 K hN   x2 x3 x4 x5 x6 x7 x8 x10 (0 : Int32) (0 : Int32) σ
    refine ag_iconst (q := 144) (v := 1) dL_rests_143 rfl (by decide) ?_
    refine ag_goto (q := 148) dL_rests_144 rfl ?_
    exact A_L_rests_b148 K hN   x2 x3 x4 x5 x6 x7 x8 x10 (1 : Int32) (0 : Int32) σ
  refine ag_iconst (q := 129) (v := 1) dL_rests_128 rfl (by decide) ?_
  refine ag_goto (q := 133) dL_rests_129 rfl ?_
  refine ag_aload_0 (q := 134) dL_rests_133 rfl ?_
  refine ag_iload_5 (q := 136) dL_rests_134 rfl ?_
  refine ag_iconst (q := 137) (v := 2) dL_rests_136 rfl (by decide) ?_
  refine ag_callV_pI (q := 140) (av := [.int _, .int _]) (rest := [.int _]) dL_rests_137 rfl lkL_49 (C_X7_beast (Nat.le_trans (by decide) hN) x5 (2 : Int32) _) (by decide) (Nat.le_of_ble_eq_true rfl) (Nat.lt_of_lt_of_le (by decide : 0 < NT) hN) (congrArg Prod.fst s_0) (by decide) (fun _ => rfl) (Nat.le_of_ble_eq_true rfl) rfl (fun r137 e137 => ?_)
  refine ag_if_ge (tgt := 147) (q := 143) dL_rests_140 rfl rfl ?_ ?_
  · refine ag_iconst (q := 148) (v := 0) dL_rests_147 rfl (by decide) ?_
    exact A_L_rests_b148 K hN   x2 x3 x4 x5 x6 x7 x8 x10 (0 : Int32) (1 : Int32) σ
  refine ag_iconst (q := 144) (v := 1) dL_rests_143 rfl (by decide) ?_
  refine ag_goto (q := 148) dL_rests_144 rfl ?_
  exact A_L_rests_b148 K hN   x2 x3 x4 x5 x6 x7 x8 x10 (1 : Int32) (1 : Int32) σ
def J_L_rests_b93  (x2 : Int32) (x3 : Int32) (x4 : Int32) (x5 : Int32) (x6 : Int32) (x7 : Int32) (x8 : Int64) (x10 : Int64) (w0 : Int32) (σ : Sg) : Option (Int32 × Sg) :=
  (bd1 (J_X7_square x3 (0 : Int32) σ) fun r96 => (if r96 ≤ 0 then (J_L_rests_b118   x2 x3 x4 x5 x6 x7 x8 x10 (0 : Int32) w0 σ) else (bd1 (J_X7_square x3 (0 : Int32) σ) fun r105 => (if (9 : Int32) ≤ r105 then (J_L_rests_b118   x2 x3 x4 x5 x6 x7 x8 x10 (0 : Int32) w0 σ) else (J_L_rests_b118   x2 x3 x4 x5 x6 x7 x8 x10 (1 : Int32) w0 σ)))))
set_option maxHeartbeats 4000000 in
theorem A_L_rests_b93 (K : KT) {N : Nat} (hN : NT ≤ N)  (x2 : Int32) (x3 : Int32) (x4 : Int32) (x5 : Int32) (x6 : Int32) (x7 : Int32) (x8 : Int64) (x10 : Int64) (w0 : Int32) (σ : Sg) : AG K mL_rests N (fun a : Int32 × Sg => (some (.int a.1), N, R0, a.2)) (J_L_rests_b93   x2 x3 x4 x5 x6 x7 x8 x10 w0 σ) 93 [some (.ref 0), none, some (.int x2), some (.int x3), some (.int x4), some (.int x5), some (.int x6), some (.int x7), some (.long x8), none, some (.long x10), none, none, none, none, none, none] [.int w0] σ := by
  unfold J_L_rests_b93
  refine ag_aload_0 (q := 94) dL_rests_93 rfl ?_
  refine ag_iload_3 (q := 95) dL_rests_94 rfl ?_
  refine ag_iconst (q := 96) (v := 0) dL_rests_95 rfl (by decide) ?_
  refine ag_callV_pI (q := 99) (av := [.int _, .int _]) (rest := [.int _]) dL_rests_96 rfl lkL_46 (C_X7_square (Nat.le_trans (by decide) hN) x3 (0 : Int32) _) (by decide) (Nat.le_of_ble_eq_true rfl) (Nat.lt_of_lt_of_le (by decide : 0 < NT) hN) (congrArg Prod.fst s_0) (by decide) (fun _ => rfl) (Nat.le_of_ble_eq_true rfl) rfl (fun r96 e96 => ?_)
  refine ag_if_le (tgt := 117) (q := 102) dL_rests_99 rfl rfl ?_ ?_
  · refine ag_iconst (q := 118) (v := 0) dL_rests_117 rfl (by decide) ?_
    exact A_L_rests_b118 K hN   x2 x3 x4 x5 x6 x7 x8 x10 (0 : Int32) w0 σ
  refine ag_aload_0 (q := 103) dL_rests_102 rfl ?_
  refine ag_iload_3 (q := 104) dL_rests_103 rfl ?_
  refine ag_iconst (q := 105) (v := 0) dL_rests_104 rfl (by decide) ?_
  refine ag_callV_pI (q := 108) (av := [.int _, .int _]) (rest := [.int _]) dL_rests_105 rfl lkL_46 (C_X7_square (Nat.le_trans (by decide) hN) x3 (0 : Int32) _) (by decide) (Nat.le_of_ble_eq_true rfl) (Nat.lt_of_lt_of_le (by decide : 0 < NT) hN) (congrArg Prod.fst s_0) (by decide) (fun _ => rfl) (Nat.le_of_ble_eq_true rfl) rfl (fun r105 e105 => ?_)
  refine ag_bipush (q := 110) (v := 9) dL_rests_108 rfl (by decide) ?_
  refine ag_icmp_ge (tgt := 117) (q := 113) dL_rests_110 rfl rfl ?_ ?_
  · refine ag_iconst (q := 118) (v := 0) dL_rests_117 rfl (by decide) ?_
    exact A_L_rests_b118 K hN   x2 x3 x4 x5 x6 x7 x8 x10 (0 : Int32) w0 σ
  refine ag_iconst (q := 114) (v := 1) dL_rests_113 rfl (by decide) ?_
  refine ag_goto (q := 118) dL_rests_114 rfl ?_
  exact A_L_rests_b118 K hN   x2 x3 x4 x5 x6 x7 x8 x10 (1 : Int32) w0 σ
def J_L_rests_b64  (x2 : Int32) (x3 : Int32) (x4 : Int32) (x5 : Int32) (x6 : Int32) (x7 : Int32) (x8 : Int64) (x10 : Int64) (w0 : Int32) (σ : Sg) : Option (Int32 × Sg) :=
  (bd1 (J_X7_square x3 (0 : Int32) σ) fun r67 => (if r67 = (9 : Int32) then (if w0 = (1 : Int32) then (if x4 = 0 then (J_L_rests_b93   x2 x3 x4 x5 x6 x7 x8 x10 (1 : Int32) σ) else (J_L_rests_b93   x2 x3 x4 x5 x6 x7 x8 x10 (0 : Int32) σ)) else (some ((0 : Int32), σ))) else (if w0 = (0 : Int32) then (if x4 = 0 then (J_L_rests_b93   x2 x3 x4 x5 x6 x7 x8 x10 (1 : Int32) σ) else (J_L_rests_b93   x2 x3 x4 x5 x6 x7 x8 x10 (0 : Int32) σ)) else (some ((0 : Int32), σ)))))
set_option maxHeartbeats 4000000 in
theorem A_L_rests_b64 (K : KT) {N : Nat} (hN : NT ≤ N)  (x2 : Int32) (x3 : Int32) (x4 : Int32) (x5 : Int32) (x6 : Int32) (x7 : Int32) (x8 : Int64) (x10 : Int64) (w0 : Int32) (σ : Sg) : AG K mL_rests N (fun a : Int32 × Sg => (some (.int a.1), N, R0, a.2)) (J_L_rests_b64   x2 x3 x4 x5 x6 x7 x8 x10 w0 σ) 64 [some (.ref 0), none, some (.int x2), some (.int x3), some (.int x4), some (.int x5), some (.int x6), some (.int x7), some (.long x8), none, some (.long x10), none, none, none, none, none, none] [.int w0] σ := by
  unfold J_L_rests_b64
  refine ag_aload_0 (q := 65) dL_rests_64 rfl ?_
  refine ag_iload_3 (q := 66) dL_rests_65 rfl ?_
  refine ag_iconst (q := 67) (v := 0) dL_rests_66 rfl (by decide) ?_
  refine ag_callV_pI (q := 70) (av := [.int _, .int _]) (rest := [.int _]) dL_rests_67 rfl lkL_46 (C_X7_square (Nat.le_trans (by decide) hN) x3 (0 : Int32) _) (by decide) (Nat.le_of_ble_eq_true rfl) (Nat.lt_of_lt_of_le (by decide : 0 < NT) hN) (congrArg Prod.fst s_0) (by decide) (fun _ => rfl) (Nat.le_of_ble_eq_true rfl) rfl (fun r67 e67 => ?_)
  refine ag_bipush (q := 72) (v := 9) dL_rests_70 rfl (by decide) ?_
  refine ag_icmp_ne (tgt := 79) (q := 75) dL_rests_72 rfl rfl ?_ ?_
  · refine ag_iconst (q := 80) (v := 0) dL_rests_79 rfl (by decide) ?_
    refine ag_icmp_ne (tgt := 178) (q := 83) dL_rests_80 rfl rfl ?_ ?_
    · refine ag_iconst (q := 179) (v := 0) dL_rests_178 rfl (by decide) ?_
      exact ag_zretK dL_rests_179 rfl (by decide) rfl
    refine ag_iload_4 (q := 85) dL_rests_83 rfl ?_
    refine ag_if_ne (tgt := 92) (q := 88) dL_rests_85 rfl rfl ?_ ?_
    · refine ag_iconst (q := 93) (v := 0) dL_rests_92 rfl (by decide) ?_
      exact A_L_rests_b93 K hN   x2 x3 x4 x5 x6 x7 x8 x10 (0 : Int32) σ
    refine ag_iconst (q := 89) (v := 1) dL_rests_88 rfl (by decide) ?_
    refine ag_goto (q := 93) dL_rests_89 rfl ?_
    exact A_L_rests_b93 K hN   x2 x3 x4 x5 x6 x7 x8 x10 (1 : Int32) σ
  refine ag_iconst (q := 76) (v := 1) dL_rests_75 rfl (by decide) ?_
  refine ag_goto (q := 80) dL_rests_76 rfl ?_
  refine ag_icmp_ne (tgt := 178) (q := 83) dL_rests_80 rfl rfl ?_ ?_
  · refine ag_iconst (q := 179) (v := 0) dL_rests_178 rfl (by decide) ?_
    exact ag_zretK dL_rests_179 rfl (by decide) rfl
  refine ag_iload_4 (q := 85) dL_rests_83 rfl ?_
  refine ag_if_ne (tgt := 92) (q := 88) dL_rests_85 rfl rfl ?_ ?_
  · refine ag_iconst (q := 93) (v := 0) dL_rests_92 rfl (by decide) ?_
    exact A_L_rests_b93 K hN   x2 x3 x4 x5 x6 x7 x8 x10 (0 : Int32) σ
  refine ag_iconst (q := 89) (v := 1) dL_rests_88 rfl (by decide) ?_
  refine ag_goto (q := 93) dL_rests_89 rfl ?_
  exact A_L_rests_b93 K hN   x2 x3 x4 x5 x6 x7 x8 x10 (1 : Int32) σ
def J_L_rests (a2 : Int32) (σ : Sg) : Option (Int32 × Sg) :=
  (bd1 (J_L_low a2 (σ 141 0) σ) fun r4 => (bd2 (J_X7_again r4 σ) fun r10 s10 => (bd1 (J_L_low (a2 >>> ((6 : Int32) &&& 31)) (s10 141 2) s10) fun r22 => (bd2 (J_X7_starves r22 s10) fun r30 s30 => (bd1 (J_L_low (a2 >>> ((9 : Int32) &&& 31)) (11 : Int32) s30) fun r41 => (if r10 = (-2 : Int32) then (J_L_rests_b64   a2 r4 r10 r22 r30 r41 (1 : Int64) (1 : Int64) (1 : Int32) s30) else (J_L_rests_b64   a2 r4 r10 r22 r30 r41 (1 : Int64) (1 : Int64) (0 : Int32) s30)))))))
set_option maxHeartbeats 4000000 in
theorem A_L_rests (K : KT) {N : Nat} (hN : NT ≤ N) (a2 : Int32) (σ : Sg) : AG K mL_rests N (fun a : Int32 × Sg => (some (.int a.1), N, R0, a.2)) (J_L_rests a2 σ) 0 [some (.ref 0), some (.ref 141), some (.int a2), none, none, none, none, none, none, none, none, none, none, none, none, none, none] [] σ := by
  unfold J_L_rests
  refine ag_iload_2 (q := 1) dL_rests_0 rfl ?_
  refine ag_aload_1 (q := 2) dL_rests_1 rfl ?_
  refine ag_iconst (q := 3) (v := 0) dL_rests_2 rfl (by decide) ?_
  refine ag_ialdK (q := 4) (k := 0) dL_rests_3 rfl (Nat.lt_of_lt_of_le (by decide : 141 < NT) hN) s_141 (by decide) (by decide) ?_
  refine ag_callS_pI (q := 7) (av := [.int _, .int _]) (rest := []) dL_rests_4 rfl lkL_29 (C_L_low hN a2 (σ 141 0) _) (by decide) (Nat.le_of_ble_eq_true rfl) (fun _ => rfl) (Nat.le_of_ble_eq_true rfl) rfl (fun r4 e4 => ?_)
  refine ag_istore_3 (q := 8) dL_rests_7 rfl (Nat.le_of_ble_eq_true rfl) rfl ?_
  refine ag_aload_0 (q := 9) dL_rests_8 rfl ?_
  refine ag_iload_3 (q := 10) dL_rests_9 rfl ?_
  refine ag_callV_mI (q := 13) (av := [.int _]) (rest := []) dL_rests_10 rfl lkL_93 (C_X7_again (Nat.le_trans (by decide) hN) r4 _) (by decide) (Nat.le_of_ble_eq_true rfl) (Nat.lt_of_lt_of_le (by decide : 0 < NT) hN) (congrArg Prod.fst s_0) (by decide) (fun _ => rfl) (Nat.le_of_ble_eq_true rfl) rfl (fun r10 s10 e10 => ?_)
  refine ag_istore_4 (q := 15) dL_rests_13 rfl (Nat.le_of_ble_eq_true rfl) rfl ?_
  refine ag_iload_2 (q := 16) dL_rests_15 rfl ?_
  refine ag_bipush (q := 18) (v := 6) dL_rests_16 rfl (by decide) ?_
  refine ag_ishr (q := 19) dL_rests_18 rfl ?_
  refine ag_aload_1 (q := 20) dL_rests_19 rfl ?_
  refine ag_iconst (q := 21) (v := 2) dL_rests_20 rfl (by decide) ?_
  refine ag_ialdK (q := 22) (k := 2) dL_rests_21 rfl (Nat.lt_of_lt_of_le (by decide : 141 < NT) hN) s_141 (by decide) (by decide) ?_
  refine ag_callS_pI (q := 25) (av := [.int _, .int _]) (rest := []) dL_rests_22 rfl lkL_29 (C_L_low hN (a2 >>> ((6 : Int32) &&& 31)) (s10 141 2) _) (by decide) (Nat.le_of_ble_eq_true rfl) (fun _ => rfl) (Nat.le_of_ble_eq_true rfl) rfl (fun r22 e22 => ?_)
  refine ag_istore_5 (q := 27) dL_rests_25 rfl (Nat.le_of_ble_eq_true rfl) rfl ?_
  refine ag_aload_0 (q := 28) dL_rests_27 rfl ?_
  refine ag_iload_5 (q := 30) dL_rests_28 rfl ?_
  refine ag_callV_mI (q := 33) (av := [.int _]) (rest := []) dL_rests_30 rfl lkL_96 (C_X7_starves (Nat.le_trans (by decide) hN) r22 _) (by decide) (Nat.le_of_ble_eq_true rfl) (Nat.lt_of_lt_of_le (by decide : 0 < NT) hN) (congrArg Prod.fst s_0) (by decide) (fun _ => rfl) (Nat.le_of_ble_eq_true rfl) rfl (fun r30 s30 e30 => ?_)
  refine ag_istore_6 (q := 35) dL_rests_33 rfl (Nat.le_of_ble_eq_true rfl) rfl ?_
  refine ag_iload_2 (q := 36) dL_rests_35 rfl ?_
  refine ag_bipush (q := 38) (v := 9) dL_rests_36 rfl (by decide) ?_
  refine ag_ishr (q := 39) dL_rests_38 rfl ?_
  refine ag_bipush (q := 41) (v := 11) dL_rests_39 rfl (by decide) ?_
  refine ag_callS_pI (q := 44) (av := [.int _, .int _]) (rest := []) dL_rests_41 rfl lkL_29 (C_L_low hN (a2 >>> ((9 : Int32) &&& 31)) (11 : Int32) _) (by decide) (Nat.le_of_ble_eq_true rfl) (fun _ => rfl) (Nat.le_of_ble_eq_true rfl) rfl (fun r41 e41 => ?_)
  refine ag_istore_7 (q := 46) dL_rests_44 rfl (Nat.le_of_ble_eq_true rfl) rfl ?_
  refine ag_lconst (q := 47) (v := 1) dL_rests_46 rfl (by decide) ?_
  refine ag_lstore_8 (q := 49) dL_rests_47 rfl (Nat.le_of_ble_eq_true rfl) rfl ?_
  refine ag_lconst (q := 50) (v := 1) dL_rests_49 rfl (by decide) ?_
  refine ag_lstore_10 (q := 52) dL_rests_50 rfl (Nat.le_of_ble_eq_true rfl) rfl ?_
  refine ag_iload_4 (q := 54) dL_rests_52 rfl ?_
  refine ag_bipush (q := 56) (v := -2) dL_rests_54 rfl (by decide) ?_
  refine ag_icmp_ne (tgt := 63) (q := 59) dL_rests_56 rfl rfl ?_ ?_
  · refine ag_iconst (q := 64) (v := 0) dL_rests_63 rfl (by decide) ?_
    refine ag_kill_1 ?_
    exact A_L_rests_b64 K hN   a2 r4 r10 r22 r30 r41 (1 : Int64) (1 : Int64) (0 : Int32) s30
  refine ag_iconst (q := 60) (v := 1) dL_rests_59 rfl (by decide) ?_
  refine ag_goto (q := 64) dL_rests_60 rfl ?_
  refine ag_kill_1 ?_
  exact A_L_rests_b64 K hN   a2 r4 r10 r22 r30 r41 (1 : Int64) (1 : Int64) (1 : Int32) s30
theorem C_L_rests {N : Nat} (hN : NT ≤ N) (a2 : Int32) (σ : Sg) : ∀ r s', J_L_rests a2 σ = some (r, s') → AMc yL_rests mL_rests [.ref 0, .ref 141, .int a2] N R0 σ (some (.int r), N, R0, s') := fun r s' e => AMc.of (L := [some (.ref 0), some (.ref 141), some (.int a2), none, none, none, none, none, none, none, none, none, none, none, none, none, none]) (by decide) rfl (fun _ => rfl) (fun _ => Nat.le_of_ble_eq_true rfl) (Nat.le_refl _) (fun K => A_L_rests K hN a2 σ _ e (Nat.le_refl _))
def J_L_law_b332 (Ln : Nat) (xs : Nat → Int32)  (y35 : Int32 → Nat → Sg → Option (Int32 × Nat × Sg)) (x4 : Int32) (x7 : Int32) (x8 : Int32) (x1000 : Nat) (w0 : Int32) (w1 : Int32) (σ : Sg) : Option (Int32 × Nat × Sg) :=
  (if w1 = w0 then (if x7 < 0 then (some ((0 : Int32), x1000, σ)) else (bd1 (J_X7_count (10 : Int32) σ) fun r347 => (if x8 < ((100 : Int32) * r347) then (y35 (x4 + (1)) x1000 σ) else (some ((0 : Int32), x1000, σ))))) else (some ((0 : Int32), x1000, σ)))
set_option maxHeartbeats 4000000 in
theorem A_L_law_b332 (K : KT)  (Ln : Nat) (xs : Nat → Int32) (hX : KX K Ln xs)  (y35 : Int32 → Nat → Sg → Option (Int32 × Nat × Sg)) (hy35 : ∀ (x4 : Int32) (x1000 : Nat) (hx1000 : NT ≤ x1000) (σ : Sg), AG K mL_law x1000 tA (y35 x4 x1000 σ) 35 [some (.retAddr 1), some (.ref 0), some (.ref 141), none, some (.int x4), none, none, none, none, none, none] [] σ) (x4 : Int32) (x7 : Int32) (x8 : Int32) (x1000 : Nat) (hx1000 : NT ≤ x1000) (w0 : Int32) (w1 : Int32) (σ : Sg) : AG K mL_law x1000 tA (J_L_law_b332 Ln xs  y35 x4 x7 x8 x1000 w0 w1 σ) 332 [some (.retAddr 1), some (.ref 0), some (.ref 141), none, some (.int x4), none, none, some (.int x7), some (.int x8), none, none] [.int w0, .int w1] σ := by
  unfold J_L_law_b332
  refine ag_icmp_ne (tgt := 354) (q := 335) dL_law_332 rfl rfl ?_ ?_
  · refine ag_iconst (q := 355) (v := 0) dL_law_354 rfl (by decide) ?_
    exact ag_zretK dL_law_355 rfl (by decide) rfl
  refine ag_iload_7 (q := 337) dL_law_335 rfl ?_
  refine ag_if_lt (tgt := 354) (q := 340) dL_law_337 rfl rfl ?_ ?_
  · refine ag_iconst (q := 355) (v := 0) dL_law_354 rfl (by decide) ?_
    exact ag_zretK dL_law_355 rfl (by decide) rfl
  refine ag_iload_8 (q := 342) dL_law_340 rfl ?_
  refine ag_bipush (q := 344) (v := 100) dL_law_342 rfl (by decide) ?_
  refine ag_aload_1 (q := 345) dL_law_344 rfl ?_
  refine ag_bipush (q := 347) (v := 10) dL_law_345 rfl (by decide) ?_
  refine ag_callV_pI (q := 350) (av := [.int _]) (rest := [.int _, .int _]) dL_law_347 rfl lkL_52 (C_X7_count (Nat.le_trans (by decide) hx1000) (10 : Int32) _) (by decide) (Nat.le_of_ble_eq_true rfl) (Nat.lt_of_lt_of_le (by decide : 0 < NT) hx1000) (congrArg Prod.fst s_0) (by decide) (fun _ => rfl) (Nat.le_of_ble_eq_true rfl) rfl (fun r347 e347 => ?_)
  refine ag_imul (q := 351) dL_law_350 rfl ?_
  refine ag_icmp_lt (tgt := 356) (q := 354) dL_law_351 rfl rfl ?_ ?_
  · refine ag_iinc_4 (q := 359) (d := (1)) dL_law_356 rfl (Nat.le_of_ble_eq_true rfl) rfl (by decide) ?_
    refine ag_goto (q := 35) dL_law_359 rfl ?_
    refine ag_kill_7 ?_
    refine ag_kill_8 ?_
    exact hy35 (x4 + (1)) x1000 hx1000 σ
  refine ag_iconst (q := 355) (v := 0) dL_law_354 rfl (by decide) ?_
  exact ag_zretK dL_law_355 rfl (by decide) rfl
def J_L_law_b196 (Ln : Nat) (xs : Nat → Int32)  (y35 : Int32 → Nat → Sg → Option (Int32 × Nat × Sg)) : Nat → Int32 → Int32 → Int32 → Int32 → Nat → Sg → Option (Int32 × Nat × Sg)
  | 0, _, _, _, _, _, _ => none
  | k + 1, x4, x5, x6, x7, x1000, σ =>
    (if (3 : Int32) ≤ x7 then (bd1 (J_L_low (x5 >>> ((16 : Int32) &&& 31)) (σ 141 0) σ) fun r281 => (bd2 (J_X7_otherwise x6 r281 (0 : Int32) σ) fun r285 s285 => (bd1 (J_L_low (x5 >>> ((16 : Int32) &&& 31)) (s285 141 0) s285) fun r301 => (bd2 (J_X7_otherwise x6 r301 (1 : Int32) s285) fun r305 s305 => (if r285 = 0 then (if r305 = (-4 : Int32) then (J_L_law_b332 Ln xs  y35 x4 r285 r305 x1000 (1 : Int32) (1 : Int32) s305) else (J_L_law_b332 Ln xs  y35 x4 r285 r305 x1000 (0 : Int32) (1 : Int32) s305)) else (if r305 = (-4 : Int32) then (J_L_law_b332 Ln xs  y35 x4 r285 r305 x1000 (1 : Int32) (0 : Int32) s305) else (J_L_law_b332 Ln xs  y35 x4 r285 r305 x1000 (0 : Int32) (0 : Int32) s305))))))) else (bd1 (J_L_low (x5 >>> (((3 : Int32) * x7) &&& 31)) (σ 141 2) σ) fun r212 => (bd2 (J_X7_drive r212 ((x5 >>> (((10 : Int32) + ((2 : Int32) * x7)) &&& 31)) &&& (3 : Int32)) σ) fun r236 s236 => (if r236 < (-2 : Int32) then (some ((0 : Int32), x1000, s236)) else (if 0 ≤ r236 then (J_L_law_b196 Ln xs  y35 k x4 x5 x6 (x7 + (1)) x1000 s236) else (bd2 (J_X7_rest  s236) fun r254 s254 => (if (-2 : Int32) ≤ r254 then (J_L_law_b196 Ln xs  y35 k x4 x5 x6 (x7 + (1)) x1000 s254) else (some ((0 : Int32), x1000, s254)))))))))
set_option maxHeartbeats 4000000 in
theorem A_L_law_b196 (K : KT)  (Ln : Nat) (xs : Nat → Int32) (hX : KX K Ln xs)  (y35 : Int32 → Nat → Sg → Option (Int32 × Nat × Sg)) (hy35 : ∀ (x4 : Int32) (x1000 : Nat) (hx1000 : NT ≤ x1000) (σ : Sg), AG K mL_law x1000 tA (y35 x4 x1000 σ) 35 [some (.retAddr 1), some (.ref 0), some (.ref 141), none, some (.int x4), none, none, none, none, none, none] [] σ) : ∀ (k : Nat) (x4 : Int32) (x5 : Int32) (x6 : Int32) (x7 : Int32) (x1000 : Nat) (hx1000 : NT ≤ x1000) (σ : Sg), AG K mL_law x1000 tA (J_L_law_b196 Ln xs  y35 k x4 x5 x6 x7 x1000 σ) 196 [some (.retAddr 1), some (.ref 0), some (.ref 141), none, some (.int x4), some (.int x5), some (.int x6), some (.int x7), none, none, none] [] σ := by
  intro k
  induction k with
  | zero => intro x4 x5 x6 x7 x1000 hx1000 σ; exact ag_none
  | succ k ih =>
    intro x4 x5 x6 x7 x1000 hx1000 σ
    rw [J_L_law_b196]
    refine ag_iload_7 (q := 198) dL_law_196 rfl ?_
    refine ag_iconst (q := 199) (v := 3) dL_law_198 rfl (by decide) ?_
    refine ag_icmp_ge (tgt := 270) (q := 202) dL_law_199 rfl rfl ?_ ?_
    · refine ag_aload_1 (q := 271) dL_law_270 rfl ?_
      refine ag_iload_6 (q := 273) dL_law_271 rfl ?_
      refine ag_iload_5 (q := 275) dL_law_273 rfl ?_
      refine ag_bipush (q := 277) (v := 16) dL_law_275 rfl (by decide) ?_
      refine ag_ishr (q := 278) dL_law_277 rfl ?_
      refine ag_aload_2 (q := 279) dL_law_278 rfl ?_
      refine ag_iconst (q := 280) (v := 0) dL_law_279 rfl (by decide) ?_
      refine ag_ialdK (q := 281) (k := 0) dL_law_280 rfl (Nat.lt_of_lt_of_le (by decide : 141 < NT) hx1000) s_141 (by decide) (by decide) ?_
      refine ag_callS_pI (q := 284) (av := [.int _, .int _]) (rest := [.int _, .ref _]) dL_law_281 rfl lkL_29 (C_L_low hx1000 (x5 >>> ((16 : Int32) &&& 31)) (σ 141 0) _) (by decide) (Nat.le_of_ble_eq_true rfl) (fun _ => rfl) (Nat.le_of_ble_eq_true rfl) rfl (fun r281 e281 => ?_)
      refine ag_iconst (q := 285) (v := 0) dL_law_284 rfl (by decide) ?_
      refine ag_callV_mI (q := 288) (av := [.int _, .int _, .int _]) (rest := []) dL_law_285 rfl lkL_131 (C_X7_otherwise (Nat.le_trans (by decide) hx1000) x6 r281 (0 : Int32) _) (by decide) (Nat.le_of_ble_eq_true rfl) (Nat.lt_of_lt_of_le (by decide : 0 < NT) hx1000) (congrArg Prod.fst s_0) (by decide) (fun _ => rfl) (Nat.le_of_ble_eq_true rfl) rfl (fun r285 s285 e285 => ?_)
      refine ag_istore_7 (q := 290) dL_law_288 rfl (Nat.le_of_ble_eq_true rfl) rfl ?_
      refine ag_aload_1 (q := 291) dL_law_290 rfl ?_
      refine ag_iload_6 (q := 293) dL_law_291 rfl ?_
      refine ag_iload_5 (q := 295) dL_law_293 rfl ?_
      refine ag_bipush (q := 297) (v := 16) dL_law_295 rfl (by decide) ?_
      refine ag_ishr (q := 298) dL_law_297 rfl ?_
      refine ag_aload_2 (q := 299) dL_law_298 rfl ?_
      refine ag_iconst (q := 300) (v := 0) dL_law_299 rfl (by decide) ?_
      refine ag_ialdK (q := 301) (k := 0) dL_law_300 rfl (Nat.lt_of_lt_of_le (by decide : 141 < NT) hx1000) s_141 (by decide) (by decide) ?_
      refine ag_callS_pI (q := 304) (av := [.int _, .int _]) (rest := [.int _, .ref _]) dL_law_301 rfl lkL_29 (C_L_low hx1000 (x5 >>> ((16 : Int32) &&& 31)) (s285 141 0) _) (by decide) (Nat.le_of_ble_eq_true rfl) (fun _ => rfl) (Nat.le_of_ble_eq_true rfl) rfl (fun r301 e301 => ?_)
      refine ag_iconst (q := 305) (v := 1) dL_law_304 rfl (by decide) ?_
      refine ag_callV_mI (q := 308) (av := [.int _, .int _, .int _]) (rest := []) dL_law_305 rfl lkL_131 (C_X7_otherwise (Nat.le_trans (by decide) hx1000) x6 r301 (1 : Int32) _) (by decide) (Nat.le_of_ble_eq_true rfl) (Nat.lt_of_lt_of_le (by decide : 0 < NT) hx1000) (congrArg Prod.fst s_0) (by decide) (fun _ => rfl) (Nat.le_of_ble_eq_true rfl) rfl (fun r305 s305 e305 => ?_)
      refine ag_istore_8 (q := 310) dL_law_308 rfl (Nat.le_of_ble_eq_true rfl) rfl ?_
      refine ag_iload_7 (q := 312) dL_law_310 rfl ?_
      refine ag_if_ne (tgt := 319) (q := 315) dL_law_312 rfl rfl ?_ ?_
      · refine ag_iconst (q := 320) (v := 0) dL_law_319 rfl (by decide) ?_
        refine ag_iload_8 (q := 322) dL_law_320 rfl ?_
        refine ag_bipush (q := 324) (v := -4) dL_law_322 rfl (by decide) ?_
        refine ag_icmp_ne (tgt := 331) (q := 327) dL_law_324 rfl rfl ?_ ?_
        · refine ag_iconst (q := 332) (v := 0) dL_law_331 rfl (by decide) ?_
          refine ag_kill_5 ?_
          refine ag_kill_6 ?_
          exact A_L_law_b332 K  Ln xs hX  y35 hy35 x4 r285 r305 x1000 hx1000 (0 : Int32) (0 : Int32) s305
        refine ag_iconst (q := 328) (v := 1) dL_law_327 rfl (by decide) ?_
        refine ag_goto (q := 332) dL_law_328 rfl ?_
        refine ag_kill_5 ?_
        refine ag_kill_6 ?_
        exact A_L_law_b332 K  Ln xs hX  y35 hy35 x4 r285 r305 x1000 hx1000 (1 : Int32) (0 : Int32) s305
      refine ag_iconst (q := 316) (v := 1) dL_law_315 rfl (by decide) ?_
      refine ag_goto (q := 320) dL_law_316 rfl ?_
      refine ag_iload_8 (q := 322) dL_law_320 rfl ?_
      refine ag_bipush (q := 324) (v := -4) dL_law_322 rfl (by decide) ?_
      refine ag_icmp_ne (tgt := 331) (q := 327) dL_law_324 rfl rfl ?_ ?_
      · refine ag_iconst (q := 332) (v := 0) dL_law_331 rfl (by decide) ?_
        refine ag_kill_5 ?_
        refine ag_kill_6 ?_
        exact A_L_law_b332 K  Ln xs hX  y35 hy35 x4 r285 r305 x1000 hx1000 (0 : Int32) (1 : Int32) s305
      refine ag_iconst (q := 328) (v := 1) dL_law_327 rfl (by decide) ?_
      refine ag_goto (q := 332) dL_law_328 rfl ?_
      refine ag_kill_5 ?_
      refine ag_kill_6 ?_
      exact A_L_law_b332 K  Ln xs hX  y35 hy35 x4 r285 r305 x1000 hx1000 (1 : Int32) (1 : Int32) s305
    refine ag_iload_5 (q := 204) dL_law_202 rfl ?_
    refine ag_iconst (q := 205) (v := 3) dL_law_204 rfl (by decide) ?_
    refine ag_iload_7 (q := 207) dL_law_205 rfl ?_
    refine ag_imul (q := 208) dL_law_207 rfl ?_
    refine ag_ishr (q := 209) dL_law_208 rfl ?_
    refine ag_aload_2 (q := 210) dL_law_209 rfl ?_
    refine ag_iconst (q := 211) (v := 2) dL_law_210 rfl (by decide) ?_
    refine ag_ialdK (q := 212) (k := 2) dL_law_211 rfl (Nat.lt_of_lt_of_le (by decide : 141 < NT) hx1000) s_141 (by decide) (by decide) ?_
    refine ag_callS_pI (q := 215) (av := [.int _, .int _]) (rest := []) dL_law_212 rfl lkL_29 (C_L_low hx1000 (x5 >>> (((3 : Int32) * x7) &&& 31)) (σ 141 2) _) (by decide) (Nat.le_of_ble_eq_true rfl) (fun _ => rfl) (Nat.le_of_ble_eq_true rfl) rfl (fun r212 e212 => ?_)
    refine ag_istore_8 (q := 217) dL_law_215 rfl (Nat.le_of_ble_eq_true rfl) rfl ?_
    refine ag_iload_5 (q := 219) dL_law_217 rfl ?_
    refine ag_bipush (q := 221) (v := 10) dL_law_219 rfl (by decide) ?_
    refine ag_iconst (q := 222) (v := 2) dL_law_221 rfl (by decide) ?_
    refine ag_iload_7 (q := 224) dL_law_222 rfl ?_
    refine ag_imul (q := 225) dL_law_224 rfl ?_
    refine ag_iadd (q := 226) dL_law_225 rfl ?_
    refine ag_ishr (q := 227) dL_law_226 rfl ?_
    refine ag_iconst (q := 228) (v := 3) dL_law_227 rfl (by decide) ?_
    refine ag_iand (q := 229) dL_law_228 rfl ?_
    refine ag_istore_9 (q := 231) dL_law_229 rfl (Nat.le_of_ble_eq_true rfl) rfl ?_
    refine ag_aload_1 (q := 232) dL_law_231 rfl ?_
    refine ag_iload_8 (q := 234) dL_law_232 rfl ?_
    refine ag_iload_9 (q := 236) dL_law_234 rfl ?_
    refine ag_callV_mI (q := 239) (av := [.int _, .int _]) (rest := []) dL_law_236 rfl lkL_61 (C_X7_drive (Nat.le_trans (by decide) hx1000) r212 ((x5 >>> (((10 : Int32) + ((2 : Int32) * x7)) &&& 31)) &&& (3 : Int32)) _) (by decide) (Nat.le_of_ble_eq_true rfl) (Nat.lt_of_lt_of_le (by decide : 0 < NT) hx1000) (congrArg Prod.fst s_0) (by decide) (fun _ => rfl) (Nat.le_of_ble_eq_true rfl) rfl (fun r236 s236 e236 => ?_)
    refine ag_istore_10 (q := 241) dL_law_239 rfl (Nat.le_of_ble_eq_true rfl) rfl ?_
    refine ag_iload_10 (q := 243) dL_law_241 rfl ?_
    refine ag_bipush (q := 245) (v := -2) dL_law_243 rfl (by decide) ?_
    refine ag_icmp_lt (tgt := 262) (q := 248) dL_law_245 rfl rfl ?_ ?_
    · refine ag_iconst (q := 263) (v := 0) dL_law_262 rfl (by decide) ?_
      exact ag_zretK dL_law_263 rfl (by decide) rfl
    refine ag_iload_10 (q := 250) dL_law_248 rfl ?_
    refine ag_if_ge (tgt := 264) (q := 253) dL_law_250 rfl rfl ?_ ?_
    · refine ag_iinc_7 (q := 267) (d := (1)) dL_law_264 rfl (Nat.le_of_ble_eq_true rfl) rfl (by decide) ?_
      refine ag_goto (q := 196) dL_law_267 rfl ?_
      refine ag_kill_8 ?_
      refine ag_kill_9 ?_
      refine ag_kill_10 ?_
      exact ih x4 x5 x6 (x7 + (1)) x1000 hx1000 s236
    refine ag_aload_1 (q := 254) dL_law_253 rfl ?_
    refine ag_callV_mI (q := 257) (av := []) (rest := []) dL_law_254 rfl lkL_84 (C_X7_rest (Nat.le_trans (by decide) hx1000)  _) (by decide) (Nat.le_of_ble_eq_true rfl) (Nat.lt_of_lt_of_le (by decide : 0 < NT) hx1000) (congrArg Prod.fst s_0) (by decide) (fun _ => rfl) (Nat.le_of_ble_eq_true rfl) rfl (fun r254 s254 e254 => ?_)
    refine ag_bipush (q := 259) (v := -2) dL_law_257 rfl (by decide) ?_
    refine ag_icmp_ge (tgt := 264) (q := 262) dL_law_259 rfl rfl ?_ ?_
    · refine ag_iinc_7 (q := 267) (d := (1)) dL_law_264 rfl (Nat.le_of_ble_eq_true rfl) rfl (by decide) ?_
      refine ag_goto (q := 196) dL_law_267 rfl ?_
      refine ag_kill_8 ?_
      refine ag_kill_9 ?_
      refine ag_kill_10 ?_
      exact ih x4 x5 x6 (x7 + (1)) x1000 hx1000 s254
    refine ag_iconst (q := 263) (v := 0) dL_law_262 rfl (by decide) ?_
    exact ag_zretK dL_law_263 rfl (by decide) rfl
def J_L_law_b134 (Ln : Nat) (xs : Nat → Int32)  (y35 : Int32 → Nat → Sg → Option (Int32 × Nat × Sg)) (x4 : Int32) (x5 : Int32) (x6 : Int32) (x1000 : Nat) (σ : Sg) : Option (Int32 × Nat × Sg) :=
  (bd2 (J_L_rests (x5 >>> ((2 : Int32) &&& 31)) σ) fun r140 s140 => (if r140 = 0 then (some ((0 : Int32), x1000, s140)) else (bd1 (J_X7_count (10 : Int32) s140) fun r151 => (if r151 = 0 then (bd1 (J_L_low (x5 >>> ((7 : Int32) &&& 31)) (s140 141 0) s140) fun r168 => (bd2 (J_X7_otherwise x6 r168 (0 : Int32) s140) fun r172 s172 => (if r172 = 0 then (bd2 (J_X7_otherwise x6 (0 : Int32) (1 : Int32) s172) fun r183 s183 => (if r183 = (-4 : Int32) then (J_L_law_b196 Ln xs  y35 FU x4 x5 x6 (0 : Int32) x1000 s183) else (some ((0 : Int32), x1000, s183)))) else (some ((0 : Int32), x1000, s172))))) else (J_L_law_b196 Ln xs  y35 FU x4 x5 x6 (0 : Int32) x1000 s140)))))
set_option maxHeartbeats 4000000 in
theorem A_L_law_b134 (K : KT)  (Ln : Nat) (xs : Nat → Int32) (hX : KX K Ln xs)  (y35 : Int32 → Nat → Sg → Option (Int32 × Nat × Sg)) (hy35 : ∀ (x4 : Int32) (x1000 : Nat) (hx1000 : NT ≤ x1000) (σ : Sg), AG K mL_law x1000 tA (y35 x4 x1000 σ) 35 [some (.retAddr 1), some (.ref 0), some (.ref 141), none, some (.int x4), none, none, none, none, none, none] [] σ) (x4 : Int32) (x5 : Int32) (x6 : Int32) (x1000 : Nat) (hx1000 : NT ≤ x1000) (σ : Sg) : AG K mL_law x1000 tA (J_L_law_b134 Ln xs  y35 x4 x5 x6 x1000 σ) 134 [some (.retAddr 1), some (.ref 0), some (.ref 141), none, some (.int x4), some (.int x5), some (.int x6), none, none, none, none] [] σ := by
  unfold J_L_law_b134
  refine ag_aload_1 (q := 135) dL_law_134 rfl ?_
  refine ag_aload_2 (q := 136) dL_law_135 rfl ?_
  refine ag_iload_5 (q := 138) dL_law_136 rfl ?_
  refine ag_iconst (q := 139) (v := 2) dL_law_138 rfl (by decide) ?_
  refine ag_ishr (q := 140) dL_law_139 rfl ?_
  refine ag_callS_mI (q := 143) (av := [.ref _, .ref _, .int _]) (rest := []) dL_law_140 rfl lkL_128 (C_L_rests hx1000 (x5 >>> ((2 : Int32) &&& 31)) _) (by decide) (Nat.le_of_ble_eq_true rfl) (fun _ => rfl) (Nat.le_of_ble_eq_true rfl) rfl (fun r140 s140 e140 => ?_)
  refine ag_if_ne (tgt := 148) (q := 146) dL_law_143 rfl rfl ?_ ?_
  · refine ag_aload_1 (q := 149) dL_law_148 rfl ?_
    refine ag_bipush (q := 151) (v := 10) dL_law_149 rfl (by decide) ?_
    refine ag_callV_pI (q := 154) (av := [.int _]) (rest := []) dL_law_151 rfl lkL_52 (C_X7_count (Nat.le_trans (by decide) hx1000) (10 : Int32) _) (by decide) (Nat.le_of_ble_eq_true rfl) (Nat.lt_of_lt_of_le (by decide : 0 < NT) hx1000) (congrArg Prod.fst s_0) (by decide) (fun _ => rfl) (Nat.le_of_ble_eq_true rfl) rfl (fun r151 e151 => ?_)
    refine ag_if_ne (tgt := 193) (q := 157) dL_law_154 rfl rfl ?_ ?_
    · refine ag_iconst (q := 194) (v := 0) dL_law_193 rfl (by decide) ?_
      refine ag_istore_7 (q := 196) dL_law_194 rfl (Nat.le_of_ble_eq_true rfl) rfl ?_
      exact A_L_law_b196 K  Ln xs hX  y35 hy35 FU x4 x5 x6 (0 : Int32) x1000 hx1000 s140
    refine ag_aload_1 (q := 158) dL_law_157 rfl ?_
    refine ag_iload_6 (q := 160) dL_law_158 rfl ?_
    refine ag_iload_5 (q := 162) dL_law_160 rfl ?_
    refine ag_bipush (q := 164) (v := 7) dL_law_162 rfl (by decide) ?_
    refine ag_ishr (q := 165) dL_law_164 rfl ?_
    refine ag_aload_2 (q := 166) dL_law_165 rfl ?_
    refine ag_iconst (q := 167) (v := 0) dL_law_166 rfl (by decide) ?_
    refine ag_ialdK (q := 168) (k := 0) dL_law_167 rfl (Nat.lt_of_lt_of_le (by decide : 141 < NT) hx1000) s_141 (by decide) (by decide) ?_
    refine ag_callS_pI (q := 171) (av := [.int _, .int _]) (rest := [.int _, .ref _]) dL_law_168 rfl lkL_29 (C_L_low hx1000 (x5 >>> ((7 : Int32) &&& 31)) (s140 141 0) _) (by decide) (Nat.le_of_ble_eq_true rfl) (fun _ => rfl) (Nat.le_of_ble_eq_true rfl) rfl (fun r168 e168 => ?_)
    refine ag_iconst (q := 172) (v := 0) dL_law_171 rfl (by decide) ?_
    refine ag_callV_mI (q := 175) (av := [.int _, .int _, .int _]) (rest := []) dL_law_172 rfl lkL_131 (C_X7_otherwise (Nat.le_trans (by decide) hx1000) x6 r168 (0 : Int32) _) (by decide) (Nat.le_of_ble_eq_true rfl) (Nat.lt_of_lt_of_le (by decide : 0 < NT) hx1000) (congrArg Prod.fst s_0) (by decide) (fun _ => rfl) (Nat.le_of_ble_eq_true rfl) rfl (fun r172 s172 e172 => ?_)
    refine ag_if_ne (tgt := 191) (q := 178) dL_law_175 rfl rfl ?_ ?_
    · refine ag_iconst (q := 192) (v := 0) dL_law_191 rfl (by decide) ?_
      exact ag_zretK dL_law_192 rfl (by decide) rfl
    refine ag_aload_1 (q := 179) dL_law_178 rfl ?_
    refine ag_iload_6 (q := 181) dL_law_179 rfl ?_
    refine ag_iconst (q := 182) (v := 0) dL_law_181 rfl (by decide) ?_
    refine ag_iconst (q := 183) (v := 1) dL_law_182 rfl (by decide) ?_
    refine ag_callV_mI (q := 186) (av := [.int _, .int _, .int _]) (rest := []) dL_law_183 rfl lkL_131 (C_X7_otherwise (Nat.le_trans (by decide) hx1000) x6 (0 : Int32) (1 : Int32) _) (by decide) (Nat.le_of_ble_eq_true rfl) (Nat.lt_of_lt_of_le (by decide : 0 < NT) hx1000) (congrArg Prod.fst s_0) (by decide) (fun _ => rfl) (Nat.le_of_ble_eq_true rfl) rfl (fun r183 s183 e183 => ?_)
    refine ag_bipush (q := 188) (v := -4) dL_law_186 rfl (by decide) ?_
    refine ag_icmp_eq (tgt := 193) (q := 191) dL_law_188 rfl rfl ?_ ?_
    · refine ag_iconst (q := 194) (v := 0) dL_law_193 rfl (by decide) ?_
      refine ag_istore_7 (q := 196) dL_law_194 rfl (Nat.le_of_ble_eq_true rfl) rfl ?_
      exact A_L_law_b196 K  Ln xs hX  y35 hy35 FU x4 x5 x6 (0 : Int32) x1000 hx1000 s183
    refine ag_iconst (q := 192) (v := 0) dL_law_191 rfl (by decide) ?_
    exact ag_zretK dL_law_192 rfl (by decide) rfl
  refine ag_iconst (q := 147) (v := 0) dL_law_146 rfl (by decide) ?_
  exact ag_zretK dL_law_147 rfl (by decide) rfl
def J_L_law_b35 (Ln : Nat) (xs : Nat → Int32)  : Nat → Int32 → Nat → Sg → Option (Int32 × Nat × Sg)
  | 0, _, _, _ => none
  | k + 1, x4, x1000, σ =>
    (if (6 : Int32) ≤ x4 then (bd1 (J_L_agrees  σ) fun r364 => (if r364 = 0 then (some ((0 : Int32), x1000, σ)) else (bd1 (J_X7_count (11 : Int32) σ) fun r373 => (if r373 = 0 then (some ((1 : Int32), x1000, σ)) else (some ((0 : Int32), x1000, σ)))))) else (bd1 (J_L_cell Ln xs ((12 : Int32) + x4) σ) fun r48 => (bd1 (J_L_low r48 (σ 141 2) σ) fun r58 => (bd1 (J_L_agrees  σ) fun r65 => (if r65 = 0 then (some ((0 : Int32), x1000, σ)) else (bd2 (J_L_drives r58 ((r48 >>> ((4 : Int32) &&& 31)) &&& (3 : Int32)) σ) fun r81 s81 => (if r81 = 0 then (some ((0 : Int32), x1000, s81)) else (bd3 x1000 (J_L_strays x1000 r58 s81) fun r91 n91 s91 => (if r91 = 0 then (some ((0 : Int32), n91, s91)) else (if (rmI x4 (3 : Int32)) = 0 then (bd3 n91 (J_L_summers n91 ((r48 >>> ((6 : Int32) &&& 31)) &&& (1 : Int32)) s91) fun r113 n113 s113 => (if r113 = 0 then (some ((0 : Int32), n113, s113)) else (if (rmI x4 (3 : Int32)) = (1 : Int32) then (bd2 (J_L_games  s113) fun r128 s128 => (if r128 = 0 then (some ((0 : Int32), n113, s128)) else (J_L_law_b134 Ln xs  (fun x4 x1000 σ => J_L_law_b35 Ln xs   k x4 x1000 σ) x4 r48 r58 n113 s128))) else (J_L_law_b134 Ln xs  (fun x4 x1000 σ => J_L_law_b35 Ln xs   k x4 x1000 σ) x4 r48 r58 n113 s113)))) else (if (rmI x4 (3 : Int32)) = (1 : Int32) then (bd2 (J_L_games  s91) fun r128 s128 => (if r128 = 0 then (some ((0 : Int32), n91, s128)) else (J_L_law_b134 Ln xs  (fun x4 x1000 σ => J_L_law_b35 Ln xs   k x4 x1000 σ) x4 r48 r58 n91 s128))) else (J_L_law_b134 Ln xs  (fun x4 x1000 σ => J_L_law_b35 Ln xs   k x4 x1000 σ) x4 r48 r58 n91 s91))))))))))))
set_option maxHeartbeats 4000000 in
theorem A_L_law_b35 (K : KT)  (Ln : Nat) (xs : Nat → Int32) (hX : KX K Ln xs)  : ∀ (k : Nat) (x4 : Int32) (x1000 : Nat) (hx1000 : NT ≤ x1000) (σ : Sg), AG K mL_law x1000 tA (J_L_law_b35 Ln xs   k x4 x1000 σ) 35 [some (.retAddr 1), some (.ref 0), some (.ref 141), none, some (.int x4), none, none, none, none, none, none] [] σ := by
  intro k
  induction k with
  | zero => intro x4 x1000 hx1000 σ; exact ag_none
  | succ k ih =>
    intro x4 x1000 hx1000 σ
    rw [J_L_law_b35]
    refine ag_iload_4 (q := 37) dL_law_35 rfl ?_
    refine ag_bipush (q := 39) (v := 6) dL_law_37 rfl (by decide) ?_
    refine ag_icmp_ge (tgt := 362) (q := 42) dL_law_39 rfl rfl ?_ ?_
    · refine ag_aload_1 (q := 363) dL_law_362 rfl ?_
      refine ag_aload_2 (q := 364) dL_law_363 rfl ?_
      refine ag_callS_pI (q := 367) (av := [.ref _, .ref _]) (rest := []) dL_law_364 rfl lkL_113 (C_L_agrees hx1000  _) (by decide) (Nat.le_of_ble_eq_true rfl) (fun _ => rfl) (Nat.le_of_ble_eq_true rfl) rfl (fun r364 e364 => ?_)
      refine ag_if_eq (tgt := 383) (q := 370) dL_law_367 rfl rfl ?_ ?_
      · refine ag_iconst (q := 384) (v := 0) dL_law_383 rfl (by decide) ?_
        exact ag_zretK dL_law_384 rfl (by decide) rfl
      refine ag_aload_1 (q := 371) dL_law_370 rfl ?_
      refine ag_bipush (q := 373) (v := 11) dL_law_371 rfl (by decide) ?_
      refine ag_callV_pI (q := 376) (av := [.int _]) (rest := []) dL_law_373 rfl lkL_52 (C_X7_count (Nat.le_trans (by decide) hx1000) (11 : Int32) _) (by decide) (Nat.le_of_ble_eq_true rfl) (Nat.lt_of_lt_of_le (by decide : 0 < NT) hx1000) (congrArg Prod.fst s_0) (by decide) (fun _ => rfl) (Nat.le_of_ble_eq_true rfl) rfl (fun r373 e373 => ?_)
      refine ag_if_ne (tgt := 383) (q := 379) dL_law_376 rfl rfl ?_ ?_
      · refine ag_iconst (q := 384) (v := 0) dL_law_383 rfl (by decide) ?_
        exact ag_zretK dL_law_384 rfl (by decide) rfl
      refine ag_iconst (q := 380) (v := 1) dL_law_379 rfl (by decide) ?_
      refine ag_goto (q := 384) dL_law_380 rfl ?_
      exact ag_zretK dL_law_384 rfl (by decide) rfl
    refine ag_xload_0 (q := 43) dL_law_42 rfl ?_
    refine ag_bipush (q := 45) (v := 12) dL_law_43 rfl (by decide) ?_
    refine ag_iload_4 (q := 47) dL_law_45 rfl ?_
    refine ag_iadd (q := 48) dL_law_47 rfl ?_
    refine ag_callSX_pI hX (q := 51) (av := [.retAddr _, .int _]) (rest := []) dL_law_48 rfl lkL_21 (C_L_cell hx1000 Ln xs ((12 : Int32) + x4) _) (by decide) (Nat.le_of_ble_eq_true rfl) (Nat.le_of_ble_eq_true rfl) rfl (fun r48 e48 => ?_)
    refine ag_istore_5 (q := 53) dL_law_51 rfl (Nat.le_of_ble_eq_true rfl) rfl ?_
    refine ag_iload_5 (q := 55) dL_law_53 rfl ?_
    refine ag_aload_2 (q := 56) dL_law_55 rfl ?_
    refine ag_iconst (q := 57) (v := 2) dL_law_56 rfl (by decide) ?_
    refine ag_ialdK (q := 58) (k := 2) dL_law_57 rfl (Nat.lt_of_lt_of_le (by decide : 141 < NT) hx1000) s_141 (by decide) (by decide) ?_
    refine ag_callS_pI (q := 61) (av := [.int _, .int _]) (rest := []) dL_law_58 rfl lkL_29 (C_L_low hx1000 r48 (σ 141 2) _) (by decide) (Nat.le_of_ble_eq_true rfl) (fun _ => rfl) (Nat.le_of_ble_eq_true rfl) rfl (fun r58 e58 => ?_)
    refine ag_istore_6 (q := 63) dL_law_61 rfl (Nat.le_of_ble_eq_true rfl) rfl ?_
    refine ag_aload_1 (q := 64) dL_law_63 rfl ?_
    refine ag_aload_2 (q := 65) dL_law_64 rfl ?_
    refine ag_callS_pI (q := 68) (av := [.ref _, .ref _]) (rest := []) dL_law_65 rfl lkL_113 (C_L_agrees hx1000  _) (by decide) (Nat.le_of_ble_eq_true rfl) (fun _ => rfl) (Nat.le_of_ble_eq_true rfl) rfl (fun r65 e65 => ?_)
    refine ag_if_eq (tgt := 146) (q := 71) dL_law_68 rfl rfl ?_ ?_
    · refine ag_iconst (q := 147) (v := 0) dL_law_146 rfl (by decide) ?_
      exact ag_zretK dL_law_147 rfl (by decide) rfl
    refine ag_aload_1 (q := 72) dL_law_71 rfl ?_
    refine ag_aload_2 (q := 73) dL_law_72 rfl ?_
    refine ag_iload_6 (q := 75) dL_law_73 rfl ?_
    refine ag_iload_5 (q := 77) dL_law_75 rfl ?_
    refine ag_iconst (q := 78) (v := 4) dL_law_77 rfl (by decide) ?_
    refine ag_ishr (q := 79) dL_law_78 rfl ?_
    refine ag_iconst (q := 80) (v := 3) dL_law_79 rfl (by decide) ?_
    refine ag_iand (q := 81) dL_law_80 rfl ?_
    refine ag_callS_mI (q := 84) (av := [.ref _, .ref _, .int _, .int _]) (rest := []) dL_law_81 rfl lkL_117 (C_L_drives hx1000 r58 ((r48 >>> ((4 : Int32) &&& 31)) &&& (3 : Int32)) _) (by decide) (Nat.le_of_ble_eq_true rfl) (fun _ => rfl) (Nat.le_of_ble_eq_true rfl) rfl (fun r81 s81 e81 => ?_)
    refine ag_if_eq (tgt := 146) (q := 87) dL_law_84 rfl rfl ?_ ?_
    · refine ag_iconst (q := 147) (v := 0) dL_law_146 rfl (by decide) ?_
      exact ag_zretK dL_law_147 rfl (by decide) rfl
    refine ag_aload_1 (q := 88) dL_law_87 rfl ?_
    refine ag_aload_2 (q := 89) dL_law_88 rfl ?_
    refine ag_iload_6 (q := 91) dL_law_89 rfl ?_
    refine ag_callS_aI (q := 94) (av := [.ref _, .ref _, .int _]) (rest := []) dL_law_91 rfl lkL_121 (C_L_strays x1000 hx1000 r58 _) (by decide) (Nat.le_of_ble_eq_true rfl) (Nat.le_of_ble_eq_true rfl) rfl (fun r91 n91 s91 e91 h91 => ?_)
    refine ag_if_eq (tgt := 146) (q := 97) dL_law_94 rfl rfl ?_ ?_
    · refine ag_iconst (q := 147) (v := 0) dL_law_146 rfl (by decide) ?_
      exact ag_zretK dL_law_147 rfl (by decide) rfl
    refine ag_iload_4 (q := 99) dL_law_97 rfl ?_
    refine ag_iconst (q := 100) (v := 3) dL_law_99 rfl (by decide) ?_
    refine ag_iremK (q := 101) dL_law_100 rfl (by decide) ?_
    refine ag_if_ne (tgt := 119) (q := 104) dL_law_101 rfl rfl ?_ ?_
    · refine ag_iload_4 (q := 121) dL_law_119 rfl ?_
      refine ag_iconst (q := 122) (v := 3) dL_law_121 rfl (by decide) ?_
      refine ag_iremK (q := 123) dL_law_122 rfl (by decide) ?_
      refine ag_iconst (q := 124) (v := 1) dL_law_123 rfl (by decide) ?_
      refine ag_icmp_ne (tgt := 134) (q := 127) dL_law_124 rfl rfl ?_ ?_
      · exact A_L_law_b134 K  Ln xs hX  (fun x4 x1000 σ => J_L_law_b35 Ln xs   k x4 x1000 σ) (fun x4 x1000 hx1000 σ => ih x4 x1000 hx1000 σ) x4 r48 r58 n91 (Nat.le_trans hx1000 h91) s91
      refine ag_aload_1 (q := 128) dL_law_127 rfl ?_
      refine ag_callS_mI (q := 131) (av := [.ref _]) (rest := []) dL_law_128 rfl lkL_77 (C_L_games (Nat.le_trans hx1000 h91)  _) (by decide) (Nat.le_of_ble_eq_true rfl) (fun _ => rfl) (Nat.le_of_ble_eq_true rfl) rfl (fun r128 s128 e128 => ?_)
      refine ag_if_eq (tgt := 146) (q := 134) dL_law_131 rfl rfl ?_ ?_
      · refine ag_iconst (q := 147) (v := 0) dL_law_146 rfl (by decide) ?_
        exact ag_zretK dL_law_147 rfl (by decide) rfl
      exact A_L_law_b134 K  Ln xs hX  (fun x4 x1000 σ => J_L_law_b35 Ln xs   k x4 x1000 σ) (fun x4 x1000 hx1000 σ => ih x4 x1000 hx1000 σ) x4 r48 r58 n91 (Nat.le_trans hx1000 h91) s128
    refine ag_aload_1 (q := 105) dL_law_104 rfl ?_
    refine ag_aload_2 (q := 106) dL_law_105 rfl ?_
    refine ag_iload_5 (q := 108) dL_law_106 rfl ?_
    refine ag_bipush (q := 110) (v := 6) dL_law_108 rfl (by decide) ?_
    refine ag_ishr (q := 111) dL_law_110 rfl ?_
    refine ag_iconst (q := 112) (v := 1) dL_law_111 rfl (by decide) ?_
    refine ag_iand (q := 113) dL_law_112 rfl ?_
    refine ag_callS_aI (q := 116) (av := [.ref _, .ref _, .int _]) (rest := []) dL_law_113 rfl lkL_125 (C_L_summers n91 (Nat.le_trans hx1000 h91) ((r48 >>> ((6 : Int32) &&& 31)) &&& (1 : Int32)) _) (by decide) (Nat.le_of_ble_eq_true rfl) (Nat.le_of_ble_eq_true rfl) rfl (fun r113 n113 s113 e113 h113 => ?_)
    refine ag_if_eq (tgt := 146) (q := 119) dL_law_116 rfl rfl ?_ ?_
    · refine ag_iconst (q := 147) (v := 0) dL_law_146 rfl (by decide) ?_
      exact ag_zretK dL_law_147 rfl (by decide) rfl
    refine ag_iload_4 (q := 121) dL_law_119 rfl ?_
    refine ag_iconst (q := 122) (v := 3) dL_law_121 rfl (by decide) ?_
    refine ag_iremK (q := 123) dL_law_122 rfl (by decide) ?_
    refine ag_iconst (q := 124) (v := 1) dL_law_123 rfl (by decide) ?_
    refine ag_icmp_ne (tgt := 134) (q := 127) dL_law_124 rfl rfl ?_ ?_
    · exact A_L_law_b134 K  Ln xs hX  (fun x4 x1000 σ => J_L_law_b35 Ln xs   k x4 x1000 σ) (fun x4 x1000 hx1000 σ => ih x4 x1000 hx1000 σ) x4 r48 r58 n113 (Nat.le_trans (Nat.le_trans hx1000 h91) h113) s113
    refine ag_aload_1 (q := 128) dL_law_127 rfl ?_
    refine ag_callS_mI (q := 131) (av := [.ref _]) (rest := []) dL_law_128 rfl lkL_77 (C_L_games (Nat.le_trans (Nat.le_trans hx1000 h91) h113)  _) (by decide) (Nat.le_of_ble_eq_true rfl) (fun _ => rfl) (Nat.le_of_ble_eq_true rfl) rfl (fun r128 s128 e128 => ?_)
    refine ag_if_eq (tgt := 146) (q := 134) dL_law_131 rfl rfl ?_ ?_
    · refine ag_iconst (q := 147) (v := 0) dL_law_146 rfl (by decide) ?_
      exact ag_zretK dL_law_147 rfl (by decide) rfl
    exact A_L_law_b134 K  Ln xs hX  (fun x4 x1000 σ => J_L_law_b35 Ln xs   k x4 x1000 σ) (fun x4 x1000 hx1000 σ => ih x4 x1000 hx1000 σ) x4 r48 r58 n113 (Nat.le_trans (Nat.le_trans hx1000 h91) h113) s128
def J_L_law_b18 (Ln : Nat) (xs : Nat → Int32)  (x1000 : Nat) (σ : Sg) : Option (Int32 × Nat × Sg) :=
  (bd2 (J_L_make Ln xs (0 : Int32) (5 : Int32) σ) fun r24 s24 => (if r24 = 0 then (some ((0 : Int32), x1000, s24)) else (J_L_law_b35 Ln xs   FU (0 : Int32) x1000 s24)))
set_option maxHeartbeats 4000000 in
theorem A_L_law_b18 (K : KT)  (Ln : Nat) (xs : Nat → Int32) (hX : KX K Ln xs)  (x1000 : Nat) (hx1000 : NT ≤ x1000) (σ : Sg) : AG K mL_law x1000 tA (J_L_law_b18 Ln xs   x1000 σ) 18 [some (.retAddr 1), some (.ref 0), some (.ref 141), some (.ref 142), none, none, none, none, none, none, none] [] σ := by
  unfold J_L_law_b18
  refine ag_aload_1 (q := 19) dL_law_18 rfl ?_
  refine ag_xload_0 (q := 20) dL_law_19 rfl ?_
  refine ag_iconst (q := 21) (v := 0) dL_law_20 rfl (by decide) ?_
  refine ag_iconst (q := 22) (v := 5) dL_law_21 rfl (by decide) ?_
  refine ag_aload_2 (q := 23) dL_law_22 rfl ?_
  refine ag_aload_3 (q := 24) dL_law_23 rfl ?_
  refine ag_callSX_mI hX (q := 27) (av := [.ref _, .retAddr _, .int _, .int _, .ref _, .ref _]) (rest := []) dL_law_24 rfl lkL_109 (C_L_make hx1000 Ln xs (0 : Int32) (5 : Int32) _) (by decide) (Nat.le_of_ble_eq_true rfl) (Nat.le_of_ble_eq_true rfl) rfl (fun r24 s24 e24 => ?_)
  refine ag_if_ne (tgt := 32) (q := 30) dL_law_27 rfl rfl ?_ ?_
  · refine ag_iconst (q := 33) (v := 0) dL_law_32 rfl (by decide) ?_
    refine ag_istore_4 (q := 35) dL_law_33 rfl (Nat.le_of_ble_eq_true rfl) rfl ?_
    refine ag_kill_3 ?_
    exact A_L_law_b35 K  Ln xs hX   FU (0 : Int32) x1000 hx1000 s24
  refine ag_iconst (q := 31) (v := 0) dL_law_30 rfl (by decide) ?_
  exact ag_zretK dL_law_31 rfl (by decide) rfl
