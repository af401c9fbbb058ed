def J_L_agrees_b399  (y140 : Int32 → Int32 → Int32 → Int32 → Int32 → Int32 → Sg → Option Int32) (x2 : Int32) (x3 : Int32) (x4 : Int32) (x5 : Int32) (x6 : Int32) (x7 : Int32) (x10 : Int32) (x12 : Int32) (σ : Sg) : Option Int32 :=
  (if x12 = 0 then (y140 x2 x3 x4 x5 (x6 ||| (0 : Int32)) (x7 + (1)) σ) else (y140 x2 x3 x4 x5 (x6 ||| ((1 : Int32) <<< (x10 &&& 31))) (x7 + (1)) σ))
set_option maxHeartbeats 4000000 in
theorem A_L_agrees_b399 (K : KT) {N : Nat} (hN : NT ≤ N)  (y140 : Int32 → Int32 → Int32 → Int32 → Int32 → Int32 → Sg → Option Int32) (hy140 : ∀ (x2 : Int32) (x3 : Int32) (x4 : Int32) (x5 : Int32) (x6 : Int32) (x7 : Int32) (σ : Sg), AG K mL_agrees N (fun a : Int32 => (some (.int a), N, R0, σ)) (y140 x2 x3 x4 x5 x6 x7 σ) 140 [some (.ref 0), some (.ref 141), some (.int x2), some (.int x3), some (.int x4), some (.int x5), some (.int x6), some (.int x7), none, none, none, none, none, none] [] σ) (x2 : Int32) (x3 : Int32) (x4 : Int32) (x5 : Int32) (x6 : Int32) (x7 : Int32) (x10 : Int32) (x12 : Int32) (σ : Sg) : AG K mL_agrees N (fun a : Int32 => (some (.int a), N, R0, σ)) (J_L_agrees_b399  y140 x2 x3 x4 x5 x6 x7 x10 x12 σ) 399 [some (.ref 0), some (.ref 141), some (.int x2), some (.int x3), some (.int x4), some (.int x5), some (.int x6), some (.int x7), none, none, some (.int x10), none, some (.int x12), none] [] σ := by
  unfold J_L_agrees_b399
  refine ag_iload_6 (q := 401) dL_agrees_399 rfl ?_
  refine ag_iload_12 (q := 403) dL_agrees_401 rfl ?_
  refine ag_if_eq (tgt := 413) (q := 406) dL_agrees_403 rfl rfl ?_ ?_
  · refine ag_iconst (q := 414) (v := 0) dL_agrees_413 rfl (by decide) ?_
    refine ag_ior (q := 415) dL_agrees_414 rfl ?_
    refine ag_istore_6 (q := 417) dL_agrees_415 rfl (Nat.le_of_ble_eq_true rfl) rfl ?_
    refine ag_iinc_7 (q := 420) (d := (1)) dL_agrees_417 rfl (Nat.le_of_ble_eq_true rfl) rfl (by decide) ?_
    refine ag_goto (q := 140) dL_agrees_420 rfl ?_
    refine ag_kill_10 ?_
    refine ag_kill_12 ?_
    exact hy140 x2 x3 x4 x5 (x6 ||| (0 : Int32)) (x7 + (1)) σ
  refine ag_iconst (q := 407) (v := 1) dL_agrees_406 rfl (by decide) ?_
  refine ag_iload_10 (q := 409) dL_agrees_407 rfl ?_
  refine ag_ishl (q := 410) dL_agrees_409 rfl ?_
  refine ag_goto (q := 414) dL_agrees_410 rfl ?_
  refine ag_ior (q := 415) dL_agrees_414 rfl ?_
  refine ag_istore_6 (q := 417) dL_agrees_415 rfl (Nat.le_of_ble_eq_true rfl) rfl ?_
  refine ag_iinc_7 (q := 420) (d := (1)) dL_agrees_417 rfl (Nat.le_of_ble_eq_true rfl) rfl (by decide) ?_
  refine ag_goto (q := 140) dL_agrees_420 rfl ?_
  refine ag_kill_10 ?_
  refine ag_kill_12 ?_
  exact hy140 x2 x3 x4 x5 (x6 ||| ((1 : Int32) <<< (x10 &&& 31))) (x7 + (1)) σ
def J_L_agrees_b340  (y140 : Int32 → Int32 → Int32 → Int32 → Int32 → Int32 → Sg → Option Int32) : Nat → Int32 → Int32 → Int32 → Int32 → Int32 → Int32 → Int32 → Int32 → Int32 → Sg → Option Int32
  | 0, _, _, _, _, _, _, _, _, _, _ => none
  | k + 1, x2, x3, x4, x5, x6, x7, x10, x12, x13, σ =>
    (if (σ 141 2) ≤ x13 then (J_L_agrees_b399  y140 x2 x3 x4 x5 x6 x7 x10 x12 σ) else (if x12 = 0 then (J_L_agrees_b399  y140 x2 x3 x4 x5 x6 x7 x10 x12 σ) else (bd1 (J_X7_beast x13 (0 : Int32) σ) fun r357 => (if r357 = (3 : Int32) then (bd1 (J_X7_beast x13 (1 : Int32) σ) fun r368 => (if r368 = x10 then (bd1 (J_X7_beast x13 (2 : Int32) σ) fun r380 => (if 0 ≤ r380 then (J_L_agrees_b340  y140 k x2 x3 x4 x5 x6 x7 x10 (0 : Int32) (x13 + (1)) σ) else (J_L_agrees_b340  y140 k x2 x3 x4 x5 x6 x7 x10 (1 : Int32) (x13 + (1)) σ))) else (J_L_agrees_b340  y140 k x2 x3 x4 x5 x6 x7 x10 (1 : Int32) (x13 + (1)) σ))) else (J_L_agrees_b340  y140 k x2 x3 x4 x5 x6 x7 x10 (1 : Int32) (x13 + (1)) σ)))))
set_option maxHeartbeats 4000000 in
theorem A_L_agrees_b340 (K : KT) {N : Nat} (hN : NT ≤ N)  (y140 : Int32 → Int32 → Int32 → Int32 → Int32 → Int32 → Sg → Option Int32) (hy140 : ∀ (x2 : Int32) (x3 : Int32) (x4 : Int32) (x5 : Int32) (x6 : Int32) (x7 : Int32) (σ : Sg), AG K mL_agrees N (fun a : Int32 => (some (.int a), N, R0, σ)) (y140 x2 x3 x4 x5 x6 x7 σ) 140 [some (.ref 0), some (.ref 141), some (.int x2), some (.int x3), some (.int x4), some (.int x5), some (.int x6), some (.int x7), none, none, none, none, none, none] [] σ) : ∀ (k : Nat) (x2 : Int32) (x3 : Int32) (x4 : Int32) (x5 : Int32) (x6 : Int32) (x7 : Int32) (x10 : Int32) (x12 : Int32) (x13 : Int32) (σ : Sg), AG K mL_agrees N (fun a : Int32 => (some (.int a), N, R0, σ)) (J_L_agrees_b340  y140 k x2 x3 x4 x5 x6 x7 x10 x12 x13 σ) 340 [some (.ref 0), some (.ref 141), some (.int x2), some (.int x3), some (.int x4), some (.int x5), some (.int x6), some (.int x7), none, none, some (.int x10), none, some (.int x12), some (.int x13)] [] σ := by
  intro k
  induction k with
  | zero => intro x2 x3 x4 x5 x6 x7 x10 x12 x13 σ; exact ag_none
  | succ k ih =>
    intro x2 x3 x4 x5 x6 x7 x10 x12 x13 σ
    rw [J_L_agrees_b340]
    refine ag_iload_13 (q := 342) dL_agrees_340 rfl ?_
    refine ag_aload_1 (q := 343) dL_agrees_342 rfl ?_
    refine ag_iconst (q := 344) (v := 2) dL_agrees_343 rfl (by decide) ?_
    refine ag_ialdK (q := 345) (k := 2) dL_agrees_344 rfl (Nat.lt_of_lt_of_le (by decide : 141 < NT) hN) s_141 (by decide) (by decide) ?_
    refine ag_icmp_ge (tgt := 399) (q := 348) dL_agrees_345 rfl rfl ?_ ?_
    · refine ag_kill_13 ?_
      exact A_L_agrees_b399 K hN  y140 hy140 x2 x3 x4 x5 x6 x7 x10 x12 σ
    refine ag_iload_12 (q := 350) dL_agrees_348 rfl ?_
    refine ag_if_eq (tgt := 399) (q := 353) dL_agrees_350 rfl rfl ?_ ?_
    · refine ag_kill_13 ?_
      exact A_L_agrees_b399 K hN  y140 hy140 x2 x3 x4 x5 x6 x7 x10 x12 σ
    refine ag_aload_0 (q := 354) dL_agrees_353 rfl ?_
    refine ag_iload_13 (q := 356) dL_agrees_354 rfl ?_
    refine ag_iconst (q := 357) (v := 0) dL_agrees_356 rfl (by decide) ?_
    refine ag_callV_pI (q := 360) (av := [.int _, .int _]) (rest := []) dL_agrees_357 rfl lkL_49 (C_X7_beast (Nat.le_trans (by decide) hN) x13 (0 : Int32) _) (by decide) (Nat.le_of_ble_eq_true rfl) (Nat.lt_of_lt_of_le (by decide : 0 < NT) hN) (congrArg Prod.fst s_0) (by decide) (fun _ => rfl) (Nat.le_of_ble_eq_true rfl) rfl (fun r357 e357 => ?_)
    refine ag_iconst (q := 361) (v := 3) dL_agrees_360 rfl (by decide) ?_
    refine ag_icmp_ne (tgt := 386) (q := 364) dL_agrees_361 rfl rfl ?_ ?_
    · refine ag_iconst (q := 387) (v := 1) dL_agrees_386 rfl (by decide) ?_
      refine ag_goto (q := 391) dL_agrees_387 rfl ?_
      refine ag_istore_12 (q := 393) dL_agrees_391 rfl (Nat.le_of_ble_eq_true rfl) rfl ?_
      refine ag_iinc_13 (q := 396) (d := (1)) dL_agrees_393 rfl (Nat.le_of_ble_eq_true rfl) rfl (by decide) ?_
      refine ag_goto (q := 340) dL_agrees_396 rfl ?_
      exact ih x2 x3 x4 x5 x6 x7 x10 (1 : Int32) (x13 + (1)) σ
    refine ag_aload_0 (q := 365) dL_agrees_364 rfl ?_
    refine ag_iload_13 (q := 367) dL_agrees_365 rfl ?_
    refine ag_iconst (q := 368) (v := 1) dL_agrees_367 rfl (by decide) ?_
    refine ag_callV_pI (q := 371) (av := [.int _, .int _]) (rest := []) dL_agrees_368 rfl lkL_49 (C_X7_beast (Nat.le_trans (by decide) hN) x13 (1 : Int32) _) (by decide) (Nat.le_of_ble_eq_true rfl) (Nat.lt_of_lt_of_le (by decide : 0 < NT) hN) (congrArg Prod.fst s_0) (by decide) (fun _ => rfl) (Nat.le_of_ble_eq_true rfl) rfl (fun r368 e368 => ?_)
    refine ag_iload_10 (q := 373) dL_agrees_371 rfl ?_
    refine ag_icmp_ne (tgt := 386) (q := 376) dL_agrees_373 rfl rfl ?_ ?_
    · refine ag_iconst (q := 387) (v := 1) dL_agrees_386 rfl (by decide) ?_
      refine ag_goto (q := 391) dL_agrees_387 rfl ?_
      refine ag_istore_12 (q := 393) dL_agrees_391 rfl (Nat.le_of_ble_eq_true rfl) rfl ?_
      refine ag_iinc_13 (q := 396) (d := (1)) dL_agrees_393 rfl (Nat.le_of_ble_eq_true rfl) rfl (by decide) ?_
      refine ag_goto (q := 340) dL_agrees_396 rfl ?_
      exact ih x2 x3 x4 x5 x6 x7 x10 (1 : Int32) (x13 + (1)) σ
    refine ag_aload_0 (q := 377) dL_agrees_376 rfl ?_
    refine ag_iload_13 (q := 379) dL_agrees_377 rfl ?_
    refine ag_iconst (q := 380) (v := 2) dL_agrees_379 rfl (by decide) ?_
    refine ag_callV_pI (q := 383) (av := [.int _, .int _]) (rest := []) dL_agrees_380 rfl lkL_49 (C_X7_beast (Nat.le_trans (by decide) hN) x13 (2 : Int32) _) (by decide) (Nat.le_of_ble_eq_true rfl) (Nat.lt_of_lt_of_le (by decide : 0 < NT) hN) (congrArg Prod.fst s_0) (by decide) (fun _ => rfl) (Nat.le_of_ble_eq_true rfl) rfl (fun r380 e380 => ?_)
    refine ag_if_ge (tgt := 390) (q := 386) dL_agrees_383 rfl rfl ?_ ?_
    · refine ag_iconst (q := 391) (v := 0) dL_agrees_390 rfl (by decide) ?_
      refine ag_istore_12 (q := 393) dL_agrees_391 rfl (Nat.le_of_ble_eq_true rfl) rfl ?_
      refine ag_iinc_13 (q := 396) (d := (1)) dL_agrees_393 rfl (Nat.le_of_ble_eq_true rfl) rfl (by decide) ?_
      refine ag_goto (q := 340) dL_agrees_396 rfl ?_
      exact ih x2 x3 x4 x5 x6 x7 x10 (0 : Int32) (x13 + (1)) σ
    refine ag_iconst (q := 387) (v := 1) dL_agrees_386 rfl (by decide) ?_
    refine ag_goto (q := 391) dL_agrees_387 rfl ?_
    refine ag_istore_12 (q := 393) dL_agrees_391 rfl (Nat.le_of_ble_eq_true rfl) rfl ?_
    refine ag_iinc_13 (q := 396) (d := (1)) dL_agrees_393 rfl (Nat.le_of_ble_eq_true rfl) rfl (by decide) ?_
    refine ag_goto (q := 340) dL_agrees_396 rfl ?_
    exact ih x2 x3 x4 x5 x6 x7 x10 (1 : Int32) (x13 + (1)) σ
def J_L_agrees_b312  (y140 : Int32 → Int32 → Int32 → Int32 → Int32 → Int32 → Sg → Option Int32) (x2 : Int32) (x3 : Int32) (x4 : Int32) (x5 : Int32) (x6 : Int32) (x7 : Int32) (x8 : Int32) (x10 : Int32) (σ : Sg) : Option Int32 :=
  (bd1 (J_X7_beast x7 (3 : Int32) σ) fun r316 => (if 0 ≤ r316 then (if x8 = (3 : Int32) then (J_L_agrees_b340  y140 FU x2 x3 x4 x5 x6 x7 x10 (1 : Int32) (0 : Int32) σ) else (J_L_agrees_b340  y140 FU x2 x3 x4 x5 x6 x7 x10 (0 : Int32) (0 : Int32) σ)) else (some (0 : Int32))))
set_option maxHeartbeats 4000000 in
theorem A_L_agrees_b312 (K : KT) {N : Nat} (hN : NT ≤ N)  (y140 : Int32 → Int32 → Int32 → Int32 → Int32 → Int32 → Sg → Option Int32) (hy140 : ∀ (x2 : Int32) (x3 : Int32) (x4 : Int32) (x5 : Int32) (x6 : Int32) (x7 : Int32) (σ : Sg), AG K mL_agrees N (fun a : Int32 => (some (.int a), N, R0, σ)) (y140 x2 x3 x4 x5 x6 x7 σ) 140 [some (.ref 0), some (.ref 141), some (.int x2), some (.int x3), some (.int x4), some (.int x5), some (.int x6), some (.int x7), none, none, none, none, none, none] [] σ) (x2 : Int32) (x3 : Int32) (x4 : Int32) (x5 : Int32) (x6 : Int32) (x7 : Int32) (x8 : Int32) (x10 : Int32) (σ : Sg) : AG K mL_agrees N (fun a : Int32 => (some (.int a), N, R0, σ)) (J_L_agrees_b312  y140 x2 x3 x4 x5 x6 x7 x8 x10 σ) 312 [some (.ref 0), some (.ref 141), some (.int x2), some (.int x3), some (.int x4), some (.int x5), some (.int x6), some (.int x7), some (.int x8), none, some (.int x10), none, none, none] [] σ := by
  unfold J_L_agrees_b312
  refine ag_aload_0 (q := 313) dL_agrees_312 rfl ?_
  refine ag_iload_7 (q := 315) dL_agrees_313 rfl ?_
  refine ag_iconst (q := 316) (v := 3) dL_agrees_315 rfl (by decide) ?_
  refine ag_callV_pI (q := 319) (av := [.int _, .int _]) (rest := []) dL_agrees_316 rfl lkL_49 (C_X7_beast (Nat.le_trans (by decide) hN) x7 (3 : Int32) _) (by decide) (Nat.le_of_ble_eq_true rfl) (Nat.lt_of_lt_of_le (by decide : 0 < NT) hN) (congrArg Prod.fst s_0) (by decide) (fun _ => rfl) (Nat.le_of_ble_eq_true rfl) rfl (fun r316 e316 => ?_)
  refine ag_if_ge (tgt := 324) (q := 322) dL_agrees_319 rfl rfl ?_ ?_
  · refine ag_iload_8 (q := 326) dL_agrees_324 rfl ?_
    refine ag_iconst (q := 327) (v := 3) dL_agrees_326 rfl (by decide) ?_
    refine ag_icmp_ne (tgt := 334) (q := 330) dL_agrees_327 rfl rfl ?_ ?_
    · refine ag_iconst (q := 335) (v := 0) dL_agrees_334 rfl (by decide) ?_
      refine ag_istore_12 (q := 337) dL_agrees_335 rfl (Nat.le_of_ble_eq_true rfl) rfl ?_
      refine ag_iconst (q := 338) (v := 0) dL_agrees_337 rfl (by decide) ?_
      refine ag_istore_13 (q := 340) dL_agrees_338 rfl (Nat.le_of_ble_eq_true rfl) rfl ?_
      refine ag_kill_8 ?_
      exact A_L_agrees_b340 K hN  y140 hy140 FU x2 x3 x4 x5 x6 x7 x10 (0 : Int32) (0 : Int32) σ
    refine ag_iconst (q := 331) (v := 1) dL_agrees_330 rfl (by decide) ?_
    refine ag_goto (q := 335) dL_agrees_331 rfl ?_
    refine ag_istore_12 (q := 337) dL_agrees_335 rfl (Nat.le_of_ble_eq_true rfl) rfl ?_
    refine ag_iconst (q := 338) (v := 0) dL_agrees_337 rfl (by decide) ?_
    refine ag_istore_13 (q := 340) dL_agrees_338 rfl (Nat.le_of_ble_eq_true rfl) rfl ?_
    refine ag_kill_8 ?_
    exact A_L_agrees_b340 K hN  y140 hy140 FU x2 x3 x4 x5 x6 x7 x10 (1 : Int32) (0 : Int32) σ
  refine ag_iconst (q := 323) (v := 0) dL_agrees_322 rfl (by decide) ?_
  exact ag_zretK dL_agrees_323 rfl (by decide) rfl
def J_L_agrees_b279  (y140 : Int32 → Int32 → Int32 → Int32 → Int32 → Int32 → Sg → Option Int32) (x2 : Int32) (x3 : Int32) (x4 : Int32) (x5 : Int32) (x6 : Int32) (x7 : Int32) (x8 : Int32) (x9 : Int32) (x10 : Int32) (σ : Sg) : Option Int32 :=
  (if x9 < 0 then (J_L_agrees_b312  y140 x2 x3 x4 x5 x6 x7 x8 x10 σ) else (bd1 (J_X7_square x9 (1 : Int32) σ) fun r288 => (if r288 = x7 then (bd1 (J_X7_beast x7 (3 : Int32) σ) fun r300 => (bd1 (J_X7_count (9 : Int32) σ) fun r306 => (if r306 < r300 then (some (0 : Int32)) else (J_L_agrees_b312  y140 x2 x3 x4 x5 x6 x7 x8 x10 σ)))) else (some (0 : Int32)))))
set_option maxHeartbeats 4000000 in
theorem A_L_agrees_b279 (K : KT) {N : Nat} (hN : NT ≤ N)  (y140 : Int32 → Int32 → Int32 → Int32 → Int32 → Int32 → Sg → Option Int32) (hy140 : ∀ (x2 : Int32) (x3 : Int32) (x4 : Int32) (x5 : Int32) (x6 : Int32) (x7 : Int32) (σ : Sg), AG K mL_agrees N (fun a : Int32 => (some (.int a), N, R0, σ)) (y140 x2 x3 x4 x5 x6 x7 σ) 140 [some (.ref 0), some (.ref 141), some (.int x2), some (.int x3), some (.int x4), some (.int x5), some (.int x6), some (.int x7), none, none, none, none, none, none] [] σ) (x2 : Int32) (x3 : Int32) (x4 : Int32) (x5 : Int32) (x6 : Int32) (x7 : Int32) (x8 : Int32) (x9 : Int32) (x10 : Int32) (σ : Sg) : AG K mL_agrees N (fun a : Int32 => (some (.int a), N, R0, σ)) (J_L_agrees_b279  y140 x2 x3 x4 x5 x6 x7 x8 x9 x10 σ) 279 [some (.ref 0), some (.ref 141), some (.int x2), some (.int x3), some (.int x4), some (.int x5), some (.int x6), some (.int x7), some (.int x8), some (.int x9), some (.int x10), none, none, none] [] σ := by
  unfold J_L_agrees_b279
  refine ag_iload_9 (q := 281) dL_agrees_279 rfl ?_
  refine ag_if_lt (tgt := 312) (q := 284) dL_agrees_281 rfl rfl ?_ ?_
  · refine ag_kill_9 ?_
    exact A_L_agrees_b312 K hN  y140 hy140 x2 x3 x4 x5 x6 x7 x8 x10 σ
  refine ag_aload_0 (q := 285) dL_agrees_284 rfl ?_
  refine ag_iload_9 (q := 287) dL_agrees_285 rfl ?_
  refine ag_iconst (q := 288) (v := 1) dL_agrees_287 rfl (by decide) ?_
  refine ag_callV_pI (q := 291) (av := [.int _, .int _]) (rest := []) dL_agrees_288 rfl lkL_46 (C_X7_square (Nat.le_trans (by decide) hN) x9 (1 : Int32) _) (by decide) (Nat.le_of_ble_eq_true rfl) (Nat.lt_of_lt_of_le (by decide : 0 < NT) hN) (congrArg Prod.fst s_0) (by decide) (fun _ => rfl) (Nat.le_of_ble_eq_true rfl) rfl (fun r288 e288 => ?_)
  refine ag_iload_7 (q := 293) dL_agrees_291 rfl ?_
  refine ag_icmp_ne (tgt := 322) (q := 296) dL_agrees_293 rfl rfl ?_ ?_
  · refine ag_iconst (q := 323) (v := 0) dL_agrees_322 rfl (by decide) ?_
    exact ag_zretK dL_agrees_323 rfl (by decide) rfl
  refine ag_aload_0 (q := 297) dL_agrees_296 rfl ?_
  refine ag_iload_7 (q := 299) dL_agrees_297 rfl ?_
  refine ag_iconst (q := 300) (v := 3) dL_agrees_299 rfl (by decide) ?_
  refine ag_callV_pI (q := 303) (av := [.int _, .int _]) (rest := []) dL_agrees_300 rfl lkL_49 (C_X7_beast (Nat.le_trans (by decide) hN) x7 (3 : Int32) _) (by decide) (Nat.le_of_ble_eq_true rfl) (Nat.lt_of_lt_of_le (by decide : 0 < NT) hN) (congrArg Prod.fst s_0) (by decide) (fun _ => rfl) (Nat.le_of_ble_eq_true rfl) rfl (fun r300 e300 => ?_)
  refine ag_aload_0 (q := 304) dL_agrees_303 rfl ?_
  refine ag_bipush (q := 306) (v := 9) dL_agrees_304 rfl (by decide) ?_
  refine ag_callV_pI (q := 309) (av := [.int _]) (rest := [.int _]) dL_agrees_306 rfl lkL_52 (C_X7_count (Nat.le_trans (by decide) hN) (9 : Int32) _) (by decide) (Nat.le_of_ble_eq_true rfl) (Nat.lt_of_lt_of_le (by decide : 0 < NT) hN) (congrArg Prod.fst s_0) (by decide) (fun _ => rfl) (Nat.le_of_ble_eq_true rfl) rfl (fun r306 e306 => ?_)
  refine ag_icmp_gt (tgt := 322) (q := 312) dL_agrees_309 rfl rfl ?_ ?_
  · refine ag_iconst (q := 323) (v := 0) dL_agrees_322 rfl (by decide) ?_
    exact ag_zretK dL_agrees_323 rfl (by decide) rfl
  refine ag_kill_9 ?_
  exact A_L_agrees_b312 K hN  y140 hy140 x2 x3 x4 x5 x6 x7 x8 x10 σ
def J_L_agrees_b247  (y140 : Int32 → Int32 → Int32 → Int32 → Int32 → Int32 → Sg → Option Int32) (x2 : Int32) (x3 : Int32) (x4 : Int32) (x6 : Int32) (x7 : Int32) (x8 : Int32) (x9 : Int32) (x10 : Int32) (w0 : Int32) (w1 : Int32) (σ : Sg) : Option Int32 :=
  (if inb ((13 : Int32) + x7) 22 = true then (if x8 = (σ 141 ((13 : Int32) + x7).toNatClampNeg) then (J_L_agrees_b279  y140 x2 x3 x4 (w1 + w0) x6 x7 x8 x9 x10 σ) else (if inb ((13 : Int32) + x7) 22 = true then (if (σ 141 ((13 : Int32) + x7).toNatClampNeg) = (2 : Int32) then (if x8 = (1 : Int32) then (J_L_agrees_b279  y140 x2 x3 x4 (w1 + w0) x6 x7 x8 x9 x10 σ) else (some (0 : Int32))) else (some (0 : Int32))) else none)) else none)
set_option maxHeartbeats 4000000 in
theorem A_L_agrees_b247 (K : KT) {N : Nat} (hN : NT ≤ N)  (y140 : Int32 → Int32 → Int32 → Int32 → Int32 → Int32 → Sg → Option Int32) (hy140 : ∀ (x2 : Int32) (x3 : Int32) (x4 : Int32) (x5 : Int32) (x6 : Int32) (x7 : Int32) (σ : Sg), AG K mL_agrees N (fun a : Int32 => (some (.int a), N, R0, σ)) (y140 x2 x3 x4 x5 x6 x7 σ) 140 [some (.ref 0), some (.ref 141), some (.int x2), some (.int x3), some (.int x4), some (.int x5), some (.int x6), some (.int x7), none, none, none, none, none, none] [] σ) (x2 : Int32) (x3 : Int32) (x4 : Int32) (x6 : Int32) (x7 : Int32) (x8 : Int32) (x9 : Int32) (x10 : Int32) (w0 : Int32) (w1 : Int32) (σ : Sg) : AG K mL_agrees N (fun a : Int32 => (some (.int a), N, R0, σ)) (J_L_agrees_b247  y140 x2 x3 x4 x6 x7 x8 x9 x10 w0 w1 σ) 247 [some (.ref 0), some (.ref 141), some (.int x2), some (.int x3), some (.int x4), none, some (.int x6), some (.int x7), some (.int x8), some (.int x9), some (.int x10), none, none, none] [.int w0, .int w1] σ := by
  unfold J_L_agrees_b247
  refine ag_iadd (q := 248) dL_agrees_247 rfl ?_
  refine ag_istore_5 (q := 250) dL_agrees_248 rfl (Nat.le_of_ble_eq_true rfl) rfl ?_
  refine ag_iload_8 (q := 252) dL_agrees_250 rfl ?_
  refine ag_aload_1 (q := 253) dL_agrees_252 rfl ?_
  refine ag_bipush (q := 255) (v := 13) dL_agrees_253 rfl (by decide) ?_
  refine ag_iload_7 (q := 257) dL_agrees_255 rfl ?_
  refine ag_iadd (q := 258) dL_agrees_257 rfl ?_
  refine ag_iald (q := 259) dL_agrees_258 rfl (Nat.lt_of_lt_of_le (by decide : 141 < NT) hN) s_141 ?_
  refine ag_icmp_eq (tgt := 279) (q := 262) dL_agrees_259 rfl rfl ?_ ?_
  · exact A_L_agrees_b279 K hN  y140 hy140 x2 x3 x4 (w1 + w0) x6 x7 x8 x9 x10 σ
  refine ag_aload_1 (q := 263) dL_agrees_262 rfl ?_
  refine ag_bipush (q := 265) (v := 13) dL_agrees_263 rfl (by decide) ?_
  refine ag_iload_7 (q := 267) dL_agrees_265 rfl ?_
  refine ag_iadd (q := 268) dL_agrees_267 rfl ?_
  refine ag_iald (q := 269) dL_agrees_268 rfl (Nat.lt_of_lt_of_le (by decide : 141 < NT) hN) s_141 ?_
  refine ag_iconst (q := 270) (v := 2) dL_agrees_269 rfl (by decide) ?_
  refine ag_icmp_ne (tgt := 322) (q := 273) dL_agrees_270 rfl rfl ?_ ?_
  · refine ag_iconst (q := 323) (v := 0) dL_agrees_322 rfl (by decide) ?_
    exact ag_zretK dL_agrees_323 rfl (by decide) rfl
  refine ag_iload_8 (q := 275) dL_agrees_273 rfl ?_
  refine ag_iconst (q := 276) (v := 1) dL_agrees_275 rfl (by decide) ?_
  refine ag_icmp_ne (tgt := 322) (q := 279) dL_agrees_276 rfl rfl ?_ ?_
  · refine ag_iconst (q := 323) (v := 0) dL_agrees_322 rfl (by decide) ?_
    exact ag_zretK dL_agrees_323 rfl (by decide) rfl
  exact A_L_agrees_b279 K hN  y140 hy140 x2 x3 x4 (w1 + w0) x6 x7 x8 x9 x10 σ
def J_L_agrees_b206  (y140 : Int32 → Int32 → Int32 → Int32 → Int32 → Int32 → Sg → Option Int32) (x2 : Int32) (x3 : Int32) (x4 : Int32) (x5 : Int32) (x6 : Int32) (x7 : Int32) (x8 : Int32) (x9 : Int32) (x10 : Int32) (w0 : Int32) (σ : Sg) : Option Int32 :=
  (if 0 ≤ x9 then (if x10 = 0 then (if 0 ≤ x9 then (J_L_agrees_b247  y140 x2 x3 (x4 + w0) x6 x7 x8 x9 x10 (1 : Int32) x5 σ) else (J_L_agrees_b247  y140 x2 x3 (x4 + w0) x6 x7 x8 x9 x10 (0 : Int32) x5 σ)) else (if 0 ≤ x9 then (J_L_agrees_b247  y140 x2 x3 (x4 + (-w0)) x6 x7 x8 x9 x10 (1 : Int32) x5 σ) else (J_L_agrees_b247  y140 x2 x3 (x4 + (-w0)) x6 x7 x8 x9 x10 (0 : Int32) x5 σ))) else (if 0 ≤ x9 then (J_L_agrees_b247  y140 x2 x3 (x4 + (0 : Int32)) x6 x7 x8 x9 x10 (1 : Int32) x5 σ) else (J_L_agrees_b247  y140 x2 x3 (x4 + (0 : Int32)) x6 x7 x8 x9 x10 (0 : Int32) x5 σ)))
set_option maxHeartbeats 4000000 in
theorem A_L_agrees_b206 (K : KT) {N : Nat} (hN : NT ≤ N)  (y140 : Int32 → Int32 → Int32 → Int32 → Int32 → Int32 → Sg → Option Int32) (hy140 : ∀ (x2 : Int32) (x3 : Int32) (x4 : Int32) (x5 : Int32) (x6 : Int32) (x7 : Int32) (σ : Sg), AG K mL_agrees N (fun a : Int32 => (some (.int a), N, R0, σ)) (y140 x2 x3 x4 x5 x6 x7 σ) 140 [some (.ref 0), some (.ref 141), some (.int x2), some (.int x3), some (.int x4), some (.int x5), some (.int x6), some (.int x7), none, none, none, none, none, none] [] σ) (x2 : Int32) (x3 : Int32) (x4 : Int32) (x5 : Int32) (x6 : Int32) (x7 : Int32) (x8 : Int32) (x9 : Int32) (x10 : Int32) (w0 : Int32) (σ : Sg) : AG K mL_agrees N (fun a : Int32 => (some (.int a), N, R0, σ)) (J_L_agrees_b206  y140 x2 x3 x4 x5 x6 x7 x8 x9 x10 w0 σ) 206 [some (.ref 0), some (.ref 141), some (.int x2), some (.int x3), some (.int x4), some (.int x5), some (.int x6), some (.int x7), some (.int x8), some (.int x9), some (.int x10), none, none, none] [.int w0] σ := by
  unfold J_L_agrees_b206
  refine ag_istore_11 (q := 208) dL_agrees_206 rfl (Nat.le_of_ble_eq_true rfl) rfl ?_
  refine ag_iload_4 (q := 210) dL_agrees_208 rfl ?_
  refine ag_iload_9 (q := 212) dL_agrees_210 rfl ?_
  refine ag_if_ge (tgt := 219) (q := 215) dL_agrees_212 rfl rfl ?_ ?_
  · refine ag_iload_10 (q := 221) dL_agrees_219 rfl ?_
    refine ag_if_ne (tgt := 229) (q := 224) dL_agrees_221 rfl rfl ?_ ?_
    · refine ag_iload_11 (q := 231) dL_agrees_229 rfl ?_
      refine ag_ineg (q := 232) dL_agrees_231 rfl ?_
      refine ag_iadd (q := 233) dL_agrees_232 rfl ?_
      refine ag_istore_4 (q := 235) dL_agrees_233 rfl (Nat.le_of_ble_eq_true rfl) rfl ?_
      refine ag_iload_5 (q := 237) dL_agrees_235 rfl ?_
      refine ag_iload_9 (q := 239) dL_agrees_237 rfl ?_
      refine ag_if_ge (tgt := 246) (q := 242) dL_agrees_239 rfl rfl ?_ ?_
      · refine ag_iconst (q := 247) (v := 1) dL_agrees_246 rfl (by decide) ?_
        refine ag_kill_5 ?_
        refine ag_kill_11 ?_
        exact A_L_agrees_b247 K hN  y140 hy140 x2 x3 (x4 + (-w0)) x6 x7 x8 x9 x10 (1 : Int32) x5 σ
      refine ag_iconst (q := 243) (v := 0) dL_agrees_242 rfl (by decide) ?_
      refine ag_goto (q := 247) dL_agrees_243 rfl ?_
      refine ag_kill_5 ?_
      refine ag_kill_11 ?_
      exact A_L_agrees_b247 K hN  y140 hy140 x2 x3 (x4 + (-w0)) x6 x7 x8 x9 x10 (0 : Int32) x5 σ
    refine ag_iload_11 (q := 226) dL_agrees_224 rfl ?_
    refine ag_goto (q := 232) dL_agrees_226 rfl ?_
    refine ag_iadd (q := 233) dL_agrees_232 rfl ?_
    refine ag_istore_4 (q := 235) dL_agrees_233 rfl (Nat.le_of_ble_eq_true rfl) rfl ?_
    refine ag_iload_5 (q := 237) dL_agrees_235 rfl ?_
    refine ag_iload_9 (q := 239) dL_agrees_237 rfl ?_
    refine ag_if_ge (tgt := 246) (q := 242) dL_agrees_239 rfl rfl ?_ ?_
    · refine ag_iconst (q := 247) (v := 1) dL_agrees_246 rfl (by decide) ?_
      refine ag_kill_5 ?_
      refine ag_kill_11 ?_
      exact A_L_agrees_b247 K hN  y140 hy140 x2 x3 (x4 + w0) x6 x7 x8 x9 x10 (1 : Int32) x5 σ
    refine ag_iconst (q := 243) (v := 0) dL_agrees_242 rfl (by decide) ?_
    refine ag_goto (q := 247) dL_agrees_243 rfl ?_
    refine ag_kill_5 ?_
    refine ag_kill_11 ?_
    exact A_L_agrees_b247 K hN  y140 hy140 x2 x3 (x4 + w0) x6 x7 x8 x9 x10 (0 : Int32) x5 σ
  refine ag_iconst (q := 216) (v := 0) dL_agrees_215 rfl (by decide) ?_
  refine ag_goto (q := 232) dL_agrees_216 rfl ?_
  refine ag_iadd (q := 233) dL_agrees_232 rfl ?_
  refine ag_istore_4 (q := 235) dL_agrees_233 rfl (Nat.le_of_ble_eq_true rfl) rfl ?_
  refine ag_iload_5 (q := 237) dL_agrees_235 rfl ?_
  refine ag_iload_9 (q := 239) dL_agrees_237 rfl ?_
  refine ag_if_ge (tgt := 246) (q := 242) dL_agrees_239 rfl rfl ?_ ?_
  · refine ag_iconst (q := 247) (v := 1) dL_agrees_246 rfl (by decide) ?_
    refine ag_kill_5 ?_
    refine ag_kill_11 ?_
    exact A_L_agrees_b247 K hN  y140 hy140 x2 x3 (x4 + (0 : Int32)) x6 x7 x8 x9 x10 (1 : Int32) x5 σ
  refine ag_iconst (q := 243) (v := 0) dL_agrees_242 rfl (by decide) ?_
  refine ag_goto (q := 247) dL_agrees_243 rfl ?_
  refine ag_kill_5 ?_
  refine ag_kill_11 ?_
  exact A_L_agrees_b247 K hN  y140 hy140 x2 x3 (x4 + (0 : Int32)) x6 x7 x8 x9 x10 (0 : Int32) x5 σ
def J_L_agrees_b140  : Nat → Int32 → Int32 → Int32 → Int32 → Int32 → Int32 → Sg → Option Int32
  | 0, _, _, _, _, _, _, _ => none
  | k + 1, x2, x3, x4, x5, x6, x7, σ =>
    (if (σ 141 2) ≤ x7 then (bd1 (J_X7_count (8 : Int32) σ) fun r427 => (if x2 = r427 then (if x3 = x5 then (bd1 (J_X7_count (4 : Int32) σ) fun r443 => (bd1 (J_X7_count (5 : Int32) σ) fun r448 => (if x5 = (r443 + r448) then (bd1 (J_X7_count (6 : Int32) σ) fun r460 => (if x4 = r460 then (bd1 (J_X7_count (7 : Int32) σ) fun r471 => (if x6 = r471 then (some (1 : Int32)) else (some (0 : Int32)))) else (some (0 : Int32)))) else (some (0 : Int32))))) else (some (0 : Int32))) else (some (0 : Int32)))) else (bd1 (J_X7_beast x7 (0 : Int32) σ) fun r152 => (bd1 (J_X7_beast x7 (2 : Int32) σ) fun r161 => (bd1 (J_X7_beast x7 (1 : Int32) σ) fun r170 => (if r152 = 0 then (J_L_agrees_b206  (fun x2 x3 x4 x5 x6 x7 σ => J_L_agrees_b140   k x2 x3 x4 x5 x6 x7 σ) x2 x3 x4 x5 x6 x7 r152 r161 r170 (5 : Int32) σ) else (if r152 = (1 : Int32) then (J_L_agrees_b206  (fun x2 x3 x4 x5 x6 x7 σ => J_L_agrees_b140   k x2 x3 x4 x5 x6 x7 σ) x2 x3 x4 x5 x6 x7 r152 r161 r170 (3 : Int32) σ) else (if r152 = (2 : Int32) then (J_L_agrees_b206  (fun x2 x3 x4 x5 x6 x7 σ => J_L_agrees_b140   k x2 x3 x4 x5 x6 x7 σ) x2 x3 x4 x5 x6 x7 r152 r161 r170 (1 : Int32) σ) else (J_L_agrees_b206  (fun x2 x3 x4 x5 x6 x7 σ => J_L_agrees_b140   k x2 x3 x4 x5 x6 x7 σ) x2 x3 x4 x5 x6 x7 r152 r161 r170 (20 : Int32) σ))))))))
set_option maxHeartbeats 4000000 in
theorem A_L_agrees_b140 (K : KT) {N : Nat} (hN : NT ≤ N)  : ∀ (k : Nat) (x2 : Int32) (x3 : Int32) (x4 : Int32) (x5 : Int32) (x6 : Int32) (x7 : Int32) (σ : Sg), AG K mL_agrees N (fun a : Int32 => (some (.int a), N, R0, σ)) (J_L_agrees_b140   k x2 x3 x4 x5 x6 x7 σ) 140 [some (.ref 0), some (.ref 141), some (.int x2), some (.int x3), some (.int x4), some (.int x5), some (.int x6), some (.int x7), none, none, none, none, none, none] [] σ := by
  intro k
  induction k with
  | zero => intro x2 x3 x4 x5 x6 x7 σ; exact ag_none
  | succ k ih =>
    intro x2 x3 x4 x5 x6 x7 σ
    rw [J_L_agrees_b140]
    refine ag_iload_7 (q := 142) dL_agrees_140 rfl ?_
    refine ag_aload_1 (q := 143) dL_agrees_142 rfl ?_
    refine ag_iconst (q := 144) (v := 2) dL_agrees_143 rfl (by decide) ?_
    refine ag_ialdK (q := 145) (k := 2) dL_agrees_144 rfl (Nat.lt_of_lt_of_le (by decide : 141 < NT) hN) s_141 (by decide) (by decide) ?_
    refine ag_icmp_ge (tgt := 423) (q := 148) dL_agrees_145 rfl rfl ?_ ?_
    · refine ag_iload_2 (q := 424) dL_agrees_423 rfl ?_
      refine ag_aload_0 (q := 425) dL_agrees_424 rfl ?_
      refine ag_bipush (q := 427) (v := 8) dL_agrees_425 rfl (by decide) ?_
      refine ag_callV_pI (q := 430) (av := [.int _]) (rest := [.int _]) dL_agrees_427 rfl lkL_52 (C_X7_count (Nat.le_trans (by decide) hN) (8 : Int32) _) (by decide) (Nat.le_of_ble_eq_true rfl) (Nat.lt_of_lt_of_le (by decide : 0 < NT) hN) (congrArg Prod.fst s_0) (by decide) (fun _ => rfl) (Nat.le_of_ble_eq_true rfl) rfl (fun r427 e427 => ?_)
      refine ag_icmp_ne (tgt := 481) (q := 433) dL_agrees_430 rfl rfl ?_ ?_
      · refine ag_iconst (q := 482) (v := 0) dL_agrees_481 rfl (by decide) ?_
        exact ag_zretK dL_agrees_482 rfl (by decide) rfl
      refine ag_iload_3 (q := 434) dL_agrees_433 rfl ?_
      refine ag_iload_5 (q := 436) dL_agrees_434 rfl ?_
      refine ag_icmp_ne (tgt := 481) (q := 439) dL_agrees_436 rfl rfl ?_ ?_
      · refine ag_iconst (q := 482) (v := 0) dL_agrees_481 rfl (by decide) ?_
        exact ag_zretK dL_agrees_482 rfl (by decide) rfl
      refine ag_iload_5 (q := 441) dL_agrees_439 rfl ?_
      refine ag_aload_0 (q := 442) dL_agrees_441 rfl ?_
      refine ag_iconst (q := 443) (v := 4) dL_agrees_442 rfl (by decide) ?_
      refine ag_callV_pI (q := 446) (av := [.int _]) (rest := [.int _]) dL_agrees_443 rfl lkL_52 (C_X7_count (Nat.le_trans (by decide) hN) (4 : Int32) _) (by decide) (Nat.le_of_ble_eq_true rfl) (Nat.lt_of_lt_of_le (by decide : 0 < NT) hN) (congrArg Prod.fst s_0) (by decide) (fun _ => rfl) (Nat.le_of_ble_eq_true rfl) rfl (fun r443 e443 => ?_)
      refine ag_aload_0 (q := 447) dL_agrees_446 rfl ?_
      refine ag_iconst (q := 448) (v := 5) dL_agrees_447 rfl (by decide) ?_
      refine ag_callV_pI (q := 451) (av := [.int _]) (rest := [.int _, .int _]) dL_agrees_448 rfl lkL_52 (C_X7_count (Nat.le_trans (by decide) hN) (5 : Int32) _) (by decide) (Nat.le_of_ble_eq_true rfl) (Nat.lt_of_lt_of_le (by decide : 0 < NT) hN) (congrArg Prod.fst s_0) (by decide) (fun _ => rfl) (Nat.le_of_ble_eq_true rfl) rfl (fun r448 e448 => ?_)
      refine ag_iadd (q := 452) dL_agrees_451 rfl ?_
      refine ag_icmp_ne (tgt := 481) (q := 455) dL_agrees_452 rfl rfl ?_ ?_
      · refine ag_iconst (q := 482) (v := 0) dL_agrees_481 rfl (by decide) ?_
        exact ag_zretK dL_agrees_482 rfl (by decide) rfl
      refine ag_iload_4 (q := 457) dL_agrees_455 rfl ?_
      refine ag_aload_0 (q := 458) dL_agrees_457 rfl ?_
      refine ag_bipush (q := 460) (v := 6) dL_agrees_458 rfl (by decide) ?_
      refine ag_callV_pI (q := 463) (av := [.int _]) (rest := [.int _]) dL_agrees_460 rfl lkL_52 (C_X7_count (Nat.le_trans (by decide) hN) (6 : Int32) _) (by decide) (Nat.le_of_ble_eq_true rfl) (Nat.lt_of_lt_of_le (by decide : 0 < NT) hN) (congrArg Prod.fst s_0) (by decide) (fun _ => rfl) (Nat.le_of_ble_eq_true rfl) rfl (fun r460 e460 => ?_)
      refine ag_icmp_ne (tgt := 481) (q := 466) dL_agrees_463 rfl rfl ?_ ?_
      · refine ag_iconst (q := 482) (v := 0) dL_agrees_481 rfl (by decide) ?_
        exact ag_zretK dL_agrees_482 rfl (by decide) rfl
      refine ag_iload_6 (q := 468) dL_agrees_466 rfl ?_
      refine ag_aload_0 (q := 469) dL_agrees_468 rfl ?_
      refine ag_bipush (q := 471) (v := 7) dL_agrees_469 rfl (by decide) ?_
      refine ag_callV_pI (q := 474) (av := [.int _]) (rest := [.int _]) dL_agrees_471 rfl lkL_52 (C_X7_count (Nat.le_trans (by decide) hN) (7 : Int32) _) (by decide) (Nat.le_of_ble_eq_true rfl) (Nat.lt_of_lt_of_le (by decide : 0 < NT) hN) (congrArg Prod.fst s_0) (by decide) (fun _ => rfl) (Nat.le_of_ble_eq_true rfl) rfl (fun r471 e471 => ?_)
      refine ag_icmp_ne (tgt := 481) (q := 477) dL_agrees_474 rfl rfl ?_ ?_
      · refine ag_iconst (q := 482) (v := 0) dL_agrees_481 rfl (by decide) ?_
        exact ag_zretK dL_agrees_482 rfl (by decide) rfl
      refine ag_iconst (q := 478) (v := 1) dL_agrees_477 rfl (by decide) ?_
      refine ag_goto (q := 482) dL_agrees_478 rfl ?_
      exact ag_zretK dL_agrees_482 rfl (by decide) rfl
    refine ag_aload_0 (q := 149) dL_agrees_148 rfl ?_
    refine ag_iload_7 (q := 151) dL_agrees_149 rfl ?_
    refine ag_iconst (q := 152) (v := 0) dL_agrees_151 rfl (by decide) ?_
    refine ag_callV_pI (q := 155) (av := [.int _, .int _]) (rest := []) dL_agrees_152 rfl lkL_49 (C_X7_beast (Nat.le_trans (by decide) hN) x7 (0 : Int32) _) (by decide) (Nat.le_of_ble_eq_true rfl) (Nat.lt_of_lt_of_le (by decide : 0 < NT) hN) (congrArg Prod.fst s_0) (by decide) (fun _ => rfl) (Nat.le_of_ble_eq_true rfl) rfl (fun r152 e152 => ?_)
    refine ag_istore_8 (q := 157) dL_agrees_155 rfl (Nat.le_of_ble_eq_true rfl) rfl ?_
    refine ag_aload_0 (q := 158) dL_agrees_157 rfl ?_
    refine ag_iload_7 (q := 160) dL_agrees_158 rfl ?_
    refine ag_iconst (q := 161) (v := 2) dL_agrees_160 rfl (by decide) ?_
    refine ag_callV_pI (q := 164) (av := [.int _, .int _]) (rest := []) dL_agrees_161 rfl lkL_49 (C_X7_beast (Nat.le_trans (by decide) hN) x7 (2 : Int32) _) (by decide) (Nat.le_of_ble_eq_true rfl) (Nat.lt_of_lt_of_le (by decide : 0 < NT) hN) (congrArg Prod.fst s_0) (by decide) (fun _ => rfl) (Nat.le_of_ble_eq_true rfl) rfl (fun r161 e161 => ?_)
    refine ag_istore_9 (q := 166) dL_agrees_164 rfl (Nat.le_of_ble_eq_true rfl) rfl ?_
    refine ag_aload_0 (q := 167) dL_agrees_166 rfl ?_
    refine ag_iload_7 (q := 169) dL_agrees_167 rfl ?_
    refine ag_iconst (q := 170) (v := 1) dL_agrees_169 rfl (by decide) ?_
    refine ag_callV_pI (q := 173) (av := [.int _, .int _]) (rest := []) dL_agrees_170 rfl lkL_49 (C_X7_beast (Nat.le_trans (by decide) hN) x7 (1 : Int32) _) (by decide) (Nat.le_of_ble_eq_true rfl) (Nat.lt_of_lt_of_le (by decide : 0 < NT) hN) (congrArg Prod.fst s_0) (by decide) (fun _ => rfl) (Nat.le_of_ble_eq_true rfl) rfl (fun r170 e170 => ?_)
    refine ag_istore_10 (q := 175) dL_agrees_173 rfl (Nat.le_of_ble_eq_true rfl) rfl ?_
    refine ag_iload_8 (q := 177) dL_agrees_175 rfl ?_
    refine ag_if_ne (tgt := 184) (q := 180) dL_agrees_177 rfl rfl ?_ ?_
    · refine ag_iload_8 (q := 186) dL_agrees_184 rfl ?_
      refine ag_iconst (q := 187) (v := 1) dL_agrees_186 rfl (by decide) ?_
      refine ag_icmp_ne (tgt := 194) (q := 190) dL_agrees_187 rfl rfl ?_ ?_
      · refine ag_iload_8 (q := 196) dL_agrees_194 rfl ?_
        refine ag_iconst (q := 197) (v := 2) dL_agrees_196 rfl (by decide) ?_
        refine ag_icmp_ne (tgt := 204) (q := 200) dL_agrees_197 rfl rfl ?_ ?_
        · refine ag_bipush (q := 206) (v := 20) dL_agrees_204 rfl (by decide) ?_
          exact A_L_agrees_b206 K hN  (fun x2 x3 x4 x5 x6 x7 σ => J_L_agrees_b140   k x2 x3 x4 x5 x6 x7 σ) (fun x2 x3 x4 x5 x6 x7 σ => ih x2 x3 x4 x5 x6 x7 σ) x2 x3 x4 x5 x6 x7 r152 r161 r170 (20 : Int32) σ
        refine ag_iconst (q := 201) (v := 1) dL_agrees_200 rfl (by decide) ?_
        refine ag_goto (q := 206) dL_agrees_201 rfl ?_
        exact A_L_agrees_b206 K hN  (fun x2 x3 x4 x5 x6 x7 σ => J_L_agrees_b140   k x2 x3 x4 x5 x6 x7 σ) (fun x2 x3 x4 x5 x6 x7 σ => ih x2 x3 x4 x5 x6 x7 σ) x2 x3 x4 x5 x6 x7 r152 r161 r170 (1 : Int32) σ
      refine ag_iconst (q := 191) (v := 3) dL_agrees_190 rfl (by decide) ?_
      refine ag_goto (q := 206) dL_agrees_191 rfl ?_
      exact A_L_agrees_b206 K hN  (fun x2 x3 x4 x5 x6 x7 σ => J_L_agrees_b140   k x2 x3 x4 x5 x6 x7 σ) (fun x2 x3 x4 x5 x6 x7 σ => ih x2 x3 x4 x5 x6 x7 σ) x2 x3 x4 x5 x6 x7 r152 r161 r170 (3 : Int32) σ
    refine ag_iconst (q := 181) (v := 5) dL_agrees_180 rfl (by decide) ?_
    refine ag_goto (q := 206) dL_agrees_181 rfl ?_
    exact A_L_agrees_b206 K hN  (fun x2 x3 x4 x5 x6 x7 σ => J_L_agrees_b140   k x2 x3 x4 x5 x6 x7 σ) (fun x2 x3 x4 x5 x6 x7 σ => ih x2 x3 x4 x5 x6 x7 σ) x2 x3 x4 x5 x6 x7 r152 r161 r170 (5 : Int32) σ
def J_L_agrees_b106  (y7 : Int32 → Int32 → Int32 → Sg → Option Int32) (x3 : Int32) (x4 : Int32) (x5 : Int32) (w0 : Int32) (w1 : Int32) (σ : Sg) : Option Int32 :=
  (if x5 < 0 then (y7 (w1 + w0) (x3 + (0 : Int32)) (x4 + (1)) σ) else (y7 (w1 + w0) (x3 + (1 : Int32)) (x4 + (1)) σ))
set_option maxHeartbeats 4000000 in
theorem A_L_agrees_b106 (K : KT) {N : Nat} (hN : NT ≤ N)  (y7 : Int32 → Int32 → Int32 → Sg → Option Int32) (hy7 : ∀ (x2 : Int32) (x3 : Int32) (x4 : Int32) (σ : Sg), AG K mL_agrees N (fun a : Int32 => (some (.int a), N, R0, σ)) (y7 x2 x3 x4 σ) 7 [some (.ref 0), some (.ref 141), some (.int x2), some (.int x3), some (.int x4), none, none, none, none, none, none, none, none, none] [] σ) (x3 : Int32) (x4 : Int32) (x5 : Int32) (w0 : Int32) (w1 : Int32) (σ : Sg) : AG K mL_agrees N (fun a : Int32 => (some (.int a), N, R0, σ)) (J_L_agrees_b106  y7 x3 x4 x5 w0 w1 σ) 106 [some (.ref 0), some (.ref 141), none, some (.int x3), some (.int x4), some (.int x5), none, none, none, none, none, none, none, none] [.int w0, .int w1] σ := by
  unfold J_L_agrees_b106
  refine ag_iadd (q := 107) dL_agrees_106 rfl ?_
  refine ag_istore_2 (q := 108) dL_agrees_107 rfl (Nat.le_of_ble_eq_true rfl) rfl ?_
  refine ag_iload_3 (q := 109) dL_agrees_108 rfl ?_
  refine ag_iload_5 (q := 111) dL_agrees_109 rfl ?_
  refine ag_if_lt (tgt := 118) (q := 114) dL_agrees_111 rfl rfl ?_ ?_
  · refine ag_iconst (q := 119) (v := 0) dL_agrees_118 rfl (by decide) ?_
    refine ag_iadd (q := 120) dL_agrees_119 rfl ?_
    refine ag_istore_3 (q := 121) dL_agrees_120 rfl (Nat.le_of_ble_eq_true rfl) rfl ?_
    refine ag_iinc_4 (q := 124) (d := (1)) dL_agrees_121 rfl (Nat.le_of_ble_eq_true rfl) rfl (by decide) ?_
    refine ag_goto (q := 7) dL_agrees_124 rfl ?_
    refine ag_kill_5 ?_
    exact hy7 (w1 + w0) (x3 + (0 : Int32)) (x4 + (1)) σ
  refine ag_iconst (q := 115) (v := 1) dL_agrees_114 rfl (by decide) ?_
  refine ag_goto (q := 119) dL_agrees_115 rfl ?_
  refine ag_iadd (q := 120) dL_agrees_119 rfl ?_
  refine ag_istore_3 (q := 121) dL_agrees_120 rfl (Nat.le_of_ble_eq_true rfl) rfl ?_
  refine ag_iinc_4 (q := 124) (d := (1)) dL_agrees_121 rfl (Nat.le_of_ble_eq_true rfl) rfl (by decide) ?_
  refine ag_goto (q := 7) dL_agrees_124 rfl ?_
  refine ag_kill_5 ?_
  exact hy7 (w1 + w0) (x3 + (1 : Int32)) (x4 + (1)) σ
def J_L_agrees_b57  (y7 : Int32 → Int32 → Int32 → Sg → Option Int32) (x2 : Int32) (x3 : Int32) (x4 : Int32) (x5 : Int32) (x6 : Int32) (w0 : Int32) (σ : Sg) : Option Int32 :=
  (bd1 (J_L_bog x4 σ) fun r60 => (if w0 = r60 then (if x5 < 0 then (if x6 = (9 : Int32) then (J_L_agrees_b106  y7 x3 x4 x5 (0 : Int32) x2 σ) else (J_L_agrees_b106  y7 x3 x4 x5 x6 x2 σ)) else (if x6 = (9 : Int32) then (some (0 : Int32)) else (bd1 (J_X7_beast x5 (2 : Int32) σ) fun r82 => (if r82 = x4 then (if x6 = (9 : Int32) then (J_L_agrees_b106  y7 x3 x4 x5 (0 : Int32) x2 σ) else (J_L_agrees_b106  y7 x3 x4 x5 x6 x2 σ)) else (some (0 : Int32)))))) else (some (0 : Int32))))
set_option maxHeartbeats 4000000 in
theorem A_L_agrees_b57 (K : KT) {N : Nat} (hN : NT ≤ N)  (y7 : Int32 → Int32 → Int32 → Sg → Option Int32) (hy7 : ∀ (x2 : Int32) (x3 : Int32) (x4 : Int32) (σ : Sg), AG K mL_agrees N (fun a : Int32 => (some (.int a), N, R0, σ)) (y7 x2 x3 x4 σ) 7 [some (.ref 0), some (.ref 141), some (.int x2), some (.int x3), some (.int x4), none, none, none, none, none, none, none, none, none] [] σ) (x2 : Int32) (x3 : Int32) (x4 : Int32) (x5 : Int32) (x6 : Int32) (w0 : Int32) (σ : Sg) : AG K mL_agrees N (fun a : Int32 => (some (.int a), N, R0, σ)) (J_L_agrees_b57  y7 x2 x3 x4 x5 x6 w0 σ) 57 [some (.ref 0), some (.ref 141), some (.int x2), some (.int x3), some (.int x4), some (.int x5), some (.int x6), none, none, none, none, none, none, none] [.int w0] σ := by
  unfold J_L_agrees_b57
  refine ag_aload_1 (q := 58) dL_agrees_57 rfl ?_
  refine ag_iload_4 (q := 60) dL_agrees_58 rfl ?_
  refine ag_callS_pI (q := 63) (av := [.ref _, .int _]) (rest := [.int _]) dL_agrees_60 rfl lkL_33 (C_L_bog hN x4 _) (by decide) (Nat.le_of_ble_eq_true rfl) (fun _ => rfl) (Nat.le_of_ble_eq_true rfl) rfl (fun r60 e60 => ?_)
  refine ag_icmp_ne (tgt := 90) (q := 66) dL_agrees_63 rfl rfl ?_ ?_
  · refine ag_iconst (q := 91) (v := 0) dL_agrees_90 rfl (by decide) ?_
    exact ag_zretK dL_agrees_91 rfl (by decide) rfl
  refine ag_iload_5 (q := 68) dL_agrees_66 rfl ?_
  refine ag_if_lt (tgt := 92) (q := 71) dL_agrees_68 rfl rfl ?_ ?_
  · refine ag_iload_2 (q := 93) dL_agrees_92 rfl ?_
    refine ag_iload_6 (q := 95) dL_agrees_93 rfl ?_
    refine ag_bipush (q := 97) (v := 9) dL_agrees_95 rfl (by decide) ?_
    refine ag_icmp_ne (tgt := 104) (q := 100) dL_agrees_97 rfl rfl ?_ ?_
    · refine ag_iload_6 (q := 106) dL_agrees_104 rfl ?_
      refine ag_kill_2 ?_
      refine ag_kill_6 ?_
      exact A_L_agrees_b106 K hN  y7 hy7 x3 x4 x5 x6 x2 σ
    refine ag_iconst (q := 101) (v := 0) dL_agrees_100 rfl (by decide) ?_
    refine ag_goto (q := 106) dL_agrees_101 rfl ?_
    refine ag_kill_2 ?_
    refine ag_kill_6 ?_
    exact A_L_agrees_b106 K hN  y7 hy7 x3 x4 x5 (0 : Int32) x2 σ
  refine ag_iload_6 (q := 73) dL_agrees_71 rfl ?_
  refine ag_bipush (q := 75) (v := 9) dL_agrees_73 rfl (by decide) ?_
  refine ag_icmp_eq (tgt := 90) (q := 78) dL_agrees_75 rfl rfl ?_ ?_
  · refine ag_iconst (q := 91) (v := 0) dL_agrees_90 rfl (by decide) ?_
    exact ag_zretK dL_agrees_91 rfl (by decide) rfl
  refine ag_aload_0 (q := 79) dL_agrees_78 rfl ?_
  refine ag_iload_5 (q := 81) dL_agrees_79 rfl ?_
  refine ag_iconst (q := 82) (v := 2) dL_agrees_81 rfl (by decide) ?_
  refine ag_callV_pI (q := 85) (av := [.int _, .int _]) (rest := []) dL_agrees_82 rfl lkL_49 (C_X7_beast (Nat.le_trans (by decide) hN) x5 (2 : Int32) _) (by decide) (Nat.le_of_ble_eq_true rfl) (Nat.lt_of_lt_of_le (by decide : 0 < NT) hN) (congrArg Prod.fst s_0) (by decide) (fun _ => rfl) (Nat.le_of_ble_eq_true rfl) rfl (fun r82 e82 => ?_)
  refine ag_iload_4 (q := 87) dL_agrees_85 rfl ?_
  refine ag_icmp_eq (tgt := 92) (q := 90) dL_agrees_87 rfl rfl ?_ ?_
  · refine ag_iload_2 (q := 93) dL_agrees_92 rfl ?_
    refine ag_iload_6 (q := 95) dL_agrees_93 rfl ?_
    refine ag_bipush (q := 97) (v := 9) dL_agrees_95 rfl (by decide) ?_
    refine ag_icmp_ne (tgt := 104) (q := 100) dL_agrees_97 rfl rfl ?_ ?_
    · refine ag_iload_6 (q := 106) dL_agrees_104 rfl ?_
      refine ag_kill_2 ?_
      refine ag_kill_6 ?_
      exact A_L_agrees_b106 K hN  y7 hy7 x3 x4 x5 x6 x2 σ
    refine ag_iconst (q := 101) (v := 0) dL_agrees_100 rfl (by decide) ?_
    refine ag_goto (q := 106) dL_agrees_101 rfl ?_
    refine ag_kill_2 ?_
    refine ag_kill_6 ?_
    exact A_L_agrees_b106 K hN  y7 hy7 x3 x4 x5 (0 : Int32) x2 σ
  refine ag_iconst (q := 91) (v := 0) dL_agrees_90 rfl (by decide) ?_
  exact ag_zretK dL_agrees_91 rfl (by decide) rfl
def J_L_agrees_b7  : Nat → Int32 → Int32 → Int32 → Sg → Option Int32
  | 0, _, _, _, _ => none
  | k + 1, x2, x3, x4, σ =>
    (if (σ 141 0) ≤ x4 then (J_L_agrees_b140   FU x2 x3 (100 : Int32) (0 : Int32) (0 : Int32) (0 : Int32) σ) else (bd1 (J_X7_square x4 (1 : Int32) σ) fun r19 => (bd1 (J_X7_square x4 (0 : Int32) σ) fun r28 => (if r28 < 0 then (some (0 : Int32)) else (if (9 : Int32) < r28 then (some (0 : Int32)) else (if r28 = (9 : Int32) then (J_L_agrees_b57  (fun x2 x3 x4 σ => J_L_agrees_b7   k x2 x3 x4 σ) x2 x3 x4 r19 r28 (1 : Int32) σ) else (J_L_agrees_b57  (fun x2 x3 x4 σ => J_L_agrees_b7   k x2 x3 x4 σ) x2 x3 x4 r19 r28 (0 : Int32) σ)))))))
set_option maxHeartbeats 4000000 in
theorem A_L_agrees_b7 (K : KT) {N : Nat} (hN : NT ≤ N)  : ∀ (k : Nat) (x2 : Int32) (x3 : Int32) (x4 : Int32) (σ : Sg), AG K mL_agrees N (fun a : Int32 => (some (.int a), N, R0, σ)) (J_L_agrees_b7   k x2 x3 x4 σ) 7 [some (.ref 0), some (.ref 141), some (.int x2), some (.int x3), some (.int x4), none, none, none, none, none, none, none, none, none] [] σ := by
  intro k
  induction k with
  | zero => intro x2 x3 x4 σ; exact ag_none
  | succ k ih =>
    intro x2 x3 x4 σ
    rw [J_L_agrees_b7]
    refine ag_iload_4 (q := 9) dL_agrees_7 rfl ?_
    refine ag_aload_1 (q := 10) dL_agrees_9 rfl ?_
    refine ag_iconst (q := 11) (v := 0) dL_agrees_10 rfl (by decide) ?_
    refine ag_ialdK (q := 12) (k := 0) dL_agrees_11 rfl (Nat.lt_of_lt_of_le (by decide : 141 < NT) hN) s_141 (by decide) (by decide) ?_
    refine ag_icmp_ge (tgt := 127) (q := 15) dL_agrees_12 rfl rfl ?_ ?_
    · refine ag_bipush (q := 129) (v := 100) dL_agrees_127 rfl (by decide) ?_
      refine ag_istore_4 (q := 131) dL_agrees_129 rfl (Nat.le_of_ble_eq_true rfl) rfl ?_
      refine ag_iconst (q := 132) (v := 0) dL_agrees_131 rfl (by decide) ?_
      refine ag_istore_5 (q := 134) dL_agrees_132 rfl (Nat.le_of_ble_eq_true rfl) rfl ?_
      refine ag_iconst (q := 135) (v := 0) dL_agrees_134 rfl (by decide) ?_
      refine ag_istore_6 (q := 137) dL_agrees_135 rfl (Nat.le_of_ble_eq_true rfl) rfl ?_
      refine ag_iconst (q := 138) (v := 0) dL_agrees_137 rfl (by decide) ?_
      refine ag_istore_7 (q := 140) dL_agrees_138 rfl (Nat.le_of_ble_eq_true rfl) rfl ?_
      exact A_L_agrees_b140 K hN   FU x2 x3 (100 : Int32) (0 : Int32) (0 : Int32) (0 : Int32) σ
    refine ag_aload_0 (q := 16) dL_agrees_15 rfl ?_
    refine ag_iload_4 (q := 18) dL_agrees_16 rfl ?_
    refine ag_iconst (q := 19) (v := 1) dL_agrees_18 rfl (by decide) ?_
    refine ag_callV_pI (q := 22) (av := [.int _, .int _]) (rest := []) dL_agrees_19 rfl lkL_46 (C_X7_square (Nat.le_trans (by decide) hN) x4 (1 : Int32) _) (by decide) (Nat.le_of_ble_eq_true rfl) (Nat.lt_of_lt_of_le (by decide : 0 < NT) hN) (congrArg Prod.fst s_0) (by decide) (fun _ => rfl) (Nat.le_of_ble_eq_true rfl) rfl (fun r19 e19 => ?_)
    refine ag_istore_5 (q := 24) dL_agrees_22 rfl (Nat.le_of_ble_eq_true rfl) rfl ?_
    refine ag_aload_0 (q := 25) dL_agrees_24 rfl ?_
    refine ag_iload_4 (q := 27) dL_agrees_25 rfl ?_
    refine ag_iconst (q := 28) (v := 0) dL_agrees_27 rfl (by decide) ?_
    refine ag_callV_pI (q := 31) (av := [.int _, .int _]) (rest := []) dL_agrees_28 rfl lkL_46 (C_X7_square (Nat.le_trans (by decide) hN) x4 (0 : Int32) _) (by decide) (Nat.le_of_ble_eq_true rfl) (Nat.lt_of_lt_of_le (by decide : 0 < NT) hN) (congrArg Prod.fst s_0) (by decide) (fun _ => rfl) (Nat.le_of_ble_eq_true rfl) rfl (fun r28 e28 => ?_)
    refine ag_istore_6 (q := 33) dL_agrees_31 rfl (Nat.le_of_ble_eq_true rfl) rfl ?_
    refine ag_iload_6 (q := 35) dL_agrees_33 rfl ?_
    refine ag_if_lt (tgt := 90) (q := 38) dL_agrees_35 rfl rfl ?_ ?_
    · refine ag_iconst (q := 91) (v := 0) dL_agrees_90 rfl (by decide) ?_
      exact ag_zretK dL_agrees_91 rfl (by decide) rfl
    refine ag_iload_6 (q := 40) dL_agrees_38 rfl ?_
    refine ag_bipush (q := 42) (v := 9) dL_agrees_40 rfl (by decide) ?_
    refine ag_icmp_gt (tgt := 90) (q := 45) dL_agrees_42 rfl rfl ?_ ?_
    · refine ag_iconst (q := 91) (v := 0) dL_agrees_90 rfl (by decide) ?_
      exact ag_zretK dL_agrees_91 rfl (by decide) rfl
    refine ag_iload_6 (q := 47) dL_agrees_45 rfl ?_
    refine ag_bipush (q := 49) (v := 9) dL_agrees_47 rfl (by decide) ?_
    refine ag_icmp_ne (tgt := 56) (q := 52) dL_agrees_49 rfl rfl ?_ ?_
    · refine ag_iconst (q := 57) (v := 0) dL_agrees_56 rfl (by decide) ?_
      exact A_L_agrees_b57 K hN  (fun x2 x3 x4 σ => J_L_agrees_b7   k x2 x3 x4 σ) (fun x2 x3 x4 σ => ih x2 x3 x4 σ) x2 x3 x4 r19 r28 (0 : Int32) σ
    refine ag_iconst (q := 53) (v := 1) dL_agrees_52 rfl (by decide) ?_
    refine ag_goto (q := 57) dL_agrees_53 rfl ?_
    exact A_L_agrees_b57 K hN  (fun x2 x3 x4 σ => J_L_agrees_b7   k x2 x3 x4 σ) (fun x2 x3 x4 σ => ih x2 x3 x4 σ) x2 x3 x4 r19 r28 (1 : Int32) σ
def J_L_agrees  (σ : Sg) : Option Int32 :=
  (J_L_agrees_b7   FU (0 : Int32) (0 : Int32) (0 : Int32) σ)
set_option maxHeartbeats 4000000 in
theorem A_L_agrees (K : KT) {N : Nat} (hN : NT ≤ N)  (σ : Sg) : AG K mL_agrees N (fun a : Int32 => (some (.int a), N, R0, σ)) (J_L_agrees  σ) 0 [some (.ref 0), some (.ref 141), none, none, none, none, none, none, none, none, none, none, none, none] [] σ := by
  unfold J_L_agrees
  refine ag_iconst (q := 1) (v := 0) dL_agrees_0 rfl (by decide) ?_
  refine ag_istore_2 (q := 2) dL_agrees_1 rfl (Nat.le_of_ble_eq_true rfl) rfl ?_
  refine ag_iconst (q := 3) (v := 0) dL_agrees_2 rfl (by decide) ?_
  refine ag_istore_3 (q := 4) dL_agrees_3 rfl (Nat.le_of_ble_eq_true rfl) rfl ?_
  refine ag_iconst (q := 5) (v := 0) dL_agrees_4 rfl (by decide) ?_
  refine ag_istore_4 (q := 7) dL_agrees_5 rfl (Nat.le_of_ble_eq_true rfl) rfl ?_
  exact A_L_agrees_b7 K hN   FU (0 : Int32) (0 : Int32) (0 : Int32) σ
theorem C_L_agrees {N : Nat} (hN : NT ≤ N)  (σ : Sg) : ∀ r, J_L_agrees  σ = some r → AMc yL_agrees mL_agrees [.ref 0, .ref 141] N R0 σ (some (.int r), N, R0, σ) := fun r e => AMc.of (L := [some (.ref 0), some (.ref 141), none, none, none, none, none, none, none, none, none, none, none, none]) (by decide) rfl (fun _ => rfl) (fun _ => Nat.le_of_ble_eq_true rfl) (Nat.le_refl _) (fun K => A_L_agrees K hN  σ _ e (Nat.le_refl _))
def J_L_drives_b365  (x2 : Int32) (x6 : Int32) (x8 : Int32) (x9 : Int32) (x10 : Int32) (w0 : Int32) (w1 : Int32) (σ : Sg) : Option (Int32 × Sg) :=
  (if w1 = w0 then (bd1 (J_X7_beast x2 (2 : Int32) σ) fun r371 => (if r371 = x8 then (bd1 (J_X7_count (3 : Int32) σ) fun r381 => (if r381 = x6 then (bd1 (J_X7_count (8 : Int32) σ) fun r392 => (if r392 = x9 then (bd1 (J_X7_count (4 : Int32) σ) fun r402 => (bd1 (J_X7_count (5 : Int32) σ) fun r407 => (if (r402 + r407) = x10 then (some ((1 : Int32), σ)) else (some ((0 : Int32), σ))))) else (some ((0 : Int32), σ)))) else (some ((0 : Int32), σ)))) else (some ((0 : Int32), σ)))) else (some ((0 : Int32), σ)))
set_option maxHeartbeats 4000000 in
theorem A_L_drives_b365 (K : KT) {N : Nat} (hN : NT ≤ N)  (x2 : Int32) (x6 : Int32) (x8 : Int32) (x9 : Int32) (x10 : Int32) (w0 : Int32) (w1 : Int32) (σ : Sg) : AG K mL_drives N (fun a : Int32 × Sg => (some (.int a.1), N, R0, a.2)) (J_L_drives_b365   x2 x6 x8 x9 x10 w0 w1 σ) 365 [some (.ref 0), none, some (.int x2), none, none, none, some (.int x6), none, some (.int x8), some (.int x9), some (.int x10), none, none, none] [.int w0, .int w1] σ := by
  unfold J_L_drives_b365
  refine ag_icmp_ne (tgt := 420) (q := 368) dL_drives_365 rfl rfl ?_ ?_
  · refine ag_iconst (q := 421) (v := 0) dL_drives_420 rfl (by decide) ?_
    exact ag_zretK dL_drives_421 rfl (by decide) rfl
  refine ag_aload_0 (q := 369) dL_drives_368 rfl ?_
  refine ag_iload_2 (q := 370) dL_drives_369 rfl ?_
  refine ag_iconst (q := 371) (v := 2) dL_drives_370 rfl (by decide) ?_
  refine ag_callV_pI (q := 374) (av := [.int _, .int _]) (rest := []) dL_drives_371 rfl lkL_49 (C_X7_beast (Nat.le_trans (by decide) hN) x2 (2 : Int32) _) (by decide) (Nat.le_of_ble_eq_true rfl) (Nat.lt_of_lt_of_le (by decide : 0 < NT) hN) (congrArg Prod.fst s_0) (by decide) (fun _ => rfl) (Nat.le_of_ble_eq_true rfl) rfl (fun r371 e371 => ?_)
  refine ag_iload_8 (q := 376) dL_drives_374 rfl ?_
  refine ag_icmp_ne (tgt := 420) (q := 379) dL_drives_376 rfl rfl ?_ ?_
  · refine ag_iconst (q := 421) (v := 0) dL_drives_420 rfl (by decide) ?_
    exact ag_zretK dL_drives_421 rfl (by decide) rfl
  refine ag_aload_0 (q := 380) dL_drives_379 rfl ?_
  refine ag_iconst (q := 381) (v := 3) dL_drives_380 rfl (by decide) ?_
  refine ag_callV_pI (q := 384) (av := [.int _]) (rest := []) dL_drives_381 rfl lkL_52 (C_X7_count (Nat.le_trans (by decide) hN) (3 : Int32) _) (by decide) (Nat.le_of_ble_eq_true rfl) (Nat.lt_of_lt_of_le (by decide : 0 < NT) hN) (congrArg Prod.fst s_0) (by decide) (fun _ => rfl) (Nat.le_of_ble_eq_true rfl) rfl (fun r381 e381 => ?_)
  refine ag_iload_6 (q := 386) dL_drives_384 rfl ?_
  refine ag_icmp_ne (tgt := 420) (q := 389) dL_drives_386 rfl rfl ?_ ?_
  · refine ag_iconst (q := 421) (v := 0) dL_drives_420 rfl (by decide) ?_
    exact ag_zretK dL_drives_421 rfl (by decide) rfl
  refine ag_aload_0 (q := 390) dL_drives_389 rfl ?_
  refine ag_bipush (q := 392) (v := 8) dL_drives_390 rfl (by decide) ?_
  refine ag_callV_pI (q := 395) (av := [.int _]) (rest := []) dL_drives_392 rfl lkL_52 (C_X7_count (Nat.le_trans (by decide) hN) (8 : Int32) _) (by decide) (Nat.le_of_ble_eq_true rfl) (Nat.lt_of_lt_of_le (by decide : 0 < NT) hN) (congrArg Prod.fst s_0) (by decide) (fun _ => rfl) (Nat.le_of_ble_eq_true rfl) rfl (fun r392 e392 => ?_)
  refine ag_iload_9 (q := 397) dL_drives_395 rfl ?_
  refine ag_icmp_ne (tgt := 420) (q := 400) dL_drives_397 rfl rfl ?_ ?_
  · refine ag_iconst (q := 421) (v := 0) dL_drives_420 rfl (by decide) ?_
    exact ag_zretK dL_drives_421 rfl (by decide) rfl
  refine ag_aload_0 (q := 401) dL_drives_400 rfl ?_
  refine ag_iconst (q := 402) (v := 4) dL_drives_401 rfl (by decide) ?_
  refine ag_callV_pI (q := 405) (av := [.int _]) (rest := []) dL_drives_402 rfl lkL_52 (C_X7_count (Nat.le_trans (by decide) hN) (4 : Int32) _) (by decide) (Nat.le_of_ble_eq_true rfl) (Nat.lt_of_lt_of_le (by decide : 0 < NT) hN) (congrArg Prod.fst s_0) (by decide) (fun _ => rfl) (Nat.le_of_ble_eq_true rfl) rfl (fun r402 e402 => ?_)
  refine ag_aload_0 (q := 406) dL_drives_405 rfl ?_
  refine ag_iconst (q := 407) (v := 5) dL_drives_406 rfl (by decide) ?_
  refine ag_callV_pI (q := 410) (av := [.int _]) (rest := [.int _]) dL_drives_407 rfl lkL_52 (C_X7_count (Nat.le_trans (by decide) hN) (5 : Int32) _) (by decide) (Nat.le_of_ble_eq_true rfl) (Nat.lt_of_lt_of_le (by decide : 0 < NT) hN) (congrArg Prod.fst s_0) (by decide) (fun _ => rfl) (Nat.le_of_ble_eq_true rfl) rfl (fun r407 e407 => ?_)
  refine ag_iadd (q := 411) dL_drives_410 rfl ?_
  refine ag_iload_10 (q := 413) dL_drives_411 rfl ?_
  refine ag_icmp_ne (tgt := 420) (q := 416) dL_drives_413 rfl rfl ?_ ?_
  · refine ag_iconst (q := 421) (v := 0) dL_drives_420 rfl (by decide) ?_
    exact ag_zretK dL_drives_421 rfl (by decide) rfl
  refine ag_iconst (q := 417) (v := 1) dL_drives_416 rfl (by decide) ?_
  refine ag_goto (q := 421) dL_drives_417 rfl ?_
  exact ag_zretK dL_drives_421 rfl (by decide) rfl
def J_L_drives_b340  (x2 : Int32) (x6 : Int32) (x7 : Int32) (x8 : Int32) (x9 : Int32) (x10 : Int32) (w0 : Int32) (σ : Sg) : Option (Int32 × Sg) :=
  (if w0 = 0 then (some ((0 : Int32), σ)) else (bd2 (J_X7_undo  σ) fun r348 s348 => (if (8 : Int32) ≤ x7 then (J_L_drives_b365   x2 x6 x8 x9 x10 (7 : Int32) r348 s348) else (J_L_drives_b365   x2 x6 x8 x9 x10 x7 r348 s348))))
set_option maxHeartbeats 4000000 in
theorem A_L_drives_b340 (K : KT) {N : Nat} (hN : NT ≤ N)  (x2 : Int32) (x6 : Int32) (x7 : Int32) (x8 : Int32) (x9 : Int32) (x10 : Int32) (w0 : Int32) (σ : Sg) : AG K mL_drives N (fun a : Int32 × Sg => (some (.int a.1), N, R0, a.2)) (J_L_drives_b340   x2 x6 x7 x8 x9 x10 w0 σ) 340 [some (.ref 0), none, some (.int x2), none, none, none, some (.int x6), some (.int x7), some (.int x8), some (.int x9), some (.int x10), none, none, none] [.int w0] σ := by
  unfold J_L_drives_b340
  refine ag_istore_13 (q := 342) dL_drives_340 rfl (Nat.le_of_ble_eq_true rfl) rfl ?_
  refine ag_iload_13 (q := 344) dL_drives_342 rfl ?_
  refine ag_if_eq (tgt := 420) (q := 347) dL_drives_344 rfl rfl ?_ ?_
  · refine ag_iconst (q := 421) (v := 0) dL_drives_420 rfl (by decide) ?_
    exact ag_zretK dL_drives_421 rfl (by decide) rfl
  refine ag_aload_0 (q := 348) dL_drives_347 rfl ?_
  refine ag_callV_mI (q := 351) (av := []) (rest := []) dL_drives_348 rfl lkL_64 (C_X7_undo (Nat.le_trans (by decide) hN)  _) (by decide) (Nat.le_of_ble_eq_true rfl) (Nat.lt_of_lt_of_le (by decide : 0 < NT) hN) (congrArg Prod.fst s_0) (by decide) (fun _ => rfl) (Nat.le_of_ble_eq_true rfl) rfl (fun r348 s348 e348 => ?_)
  refine ag_iload_7 (q := 353) dL_drives_351 rfl ?_
  refine ag_bipush (q := 355) (v := 8) dL_drives_353 rfl (by decide) ?_
  refine ag_icmp_ge (tgt := 363) (q := 358) dL_drives_355 rfl rfl ?_ ?_
  · refine ag_bipush (q := 365) (v := 7) dL_drives_363 rfl (by decide) ?_
    refine ag_kill_7 ?_
    refine ag_kill_13 ?_
    exact A_L_drives_b365 K hN   x2 x6 x8 x9 x10 (7 : Int32) r348 s348
  refine ag_iload_7 (q := 360) dL_drives_358 rfl ?_
  refine ag_goto (q := 365) dL_drives_360 rfl ?_
  refine ag_kill_7 ?_
  refine ag_kill_13 ?_
  exact A_L_drives_b365 K hN   x2 x6 x8 x9 x10 x7 r348 s348
def J_L_drives_b307  (x2 : Int32) (x5 : Int32) (x6 : Int32) (x7 : Int32) (x8 : Int32) (x9 : Int32) (x10 : Int32) (σ : Sg) : Option (Int32 × Sg) :=
  (bd1 (J_X7_count (4 : Int32) σ) fun r309 => (bd1 (J_X7_count (5 : Int32) σ) fun r314 => (if 0 ≤ x5 then (if (x10 - (1 : Int32)) < (r309 + r314) then (J_L_drives_b340   x2 x6 x7 x8 x9 x10 (0 : Int32) σ) else (J_L_drives_b340   x2 x6 x7 x8 x9 x10 (1 : Int32) σ)) else (if x10 < (r309 + r314) then (J_L_drives_b340   x2 x6 x7 x8 x9 x10 (0 : Int32) σ) else (J_L_drives_b340   x2 x6 x7 x8 x9 x10 (1 : Int32) σ)))))
set_option maxHeartbeats 4000000 in
theorem A_L_drives_b307 (K : KT) {N : Nat} (hN : NT ≤ N)  (x2 : Int32) (x5 : Int32) (x6 : Int32) (x7 : Int32) (x8 : Int32) (x9 : Int32) (x10 : Int32) (σ : Sg) : AG K mL_drives N (fun a : Int32 × Sg => (some (.int a.1), N, R0, a.2)) (J_L_drives_b307   x2 x5 x6 x7 x8 x9 x10 σ) 307 [some (.ref 0), none, some (.int x2), none, none, some (.int x5), some (.int x6), some (.int x7), some (.int x8), some (.int x9), some (.int x10), none, none, none] [] σ := by
  unfold J_L_drives_b307
  refine ag_aload_0 (q := 308) dL_drives_307 rfl ?_
  refine ag_iconst (q := 309) (v := 4) dL_drives_308 rfl (by decide) ?_
  refine ag_callV_pI (q := 312) (av := [.int _]) (rest := []) dL_drives_309 rfl lkL_52 (C_X7_count (Nat.le_trans (by decide) hN) (4 : Int32) _) (by decide) (Nat.le_of_ble_eq_true rfl) (Nat.lt_of_lt_of_le (by decide : 0 < NT) hN) (congrArg Prod.fst s_0) (by decide) (fun _ => rfl) (Nat.le_of_ble_eq_true rfl) rfl (fun r309 e309 => ?_)
  refine ag_aload_0 (q := 313) dL_drives_312 rfl ?_
  refine ag_iconst (q := 314) (v := 5) dL_drives_313 rfl (by decide) ?_
  refine ag_callV_pI (q := 317) (av := [.int _]) (rest := [.int _]) dL_drives_314 rfl lkL_52 (C_X7_count (Nat.le_trans (by decide) hN) (5 : Int32) _) (by decide) (Nat.le_of_ble_eq_true rfl) (Nat.lt_of_lt_of_le (by decide : 0 < NT) hN) (congrArg Prod.fst s_0) (by decide) (fun _ => rfl) (Nat.le_of_ble_eq_true rfl) rfl (fun r314 e314 => ?_)
  refine ag_iadd (q := 318) dL_drives_317 rfl ?_
  refine ag_iload_5 (q := 320) dL_drives_318 rfl ?_
  refine ag_if_ge (tgt := 328) (q := 323) dL_drives_320 rfl rfl ?_ ?_
  · refine ag_iload_10 (q := 330) dL_drives_328 rfl ?_
    refine ag_iconst (q := 331) (v := 1) dL_drives_330 rfl (by decide) ?_
    refine ag_isub (q := 332) dL_drives_331 rfl ?_
    refine ag_icmp_gt (tgt := 339) (q := 335) dL_drives_332 rfl rfl ?_ ?_
    · refine ag_iconst (q := 340) (v := 0) dL_drives_339 rfl (by decide) ?_
      refine ag_kill_5 ?_
      exact A_L_drives_b340 K hN   x2 x6 x7 x8 x9 x10 (0 : Int32) σ
    refine ag_iconst (q := 336) (v := 1) dL_drives_335 rfl (by decide) ?_
    refine ag_goto (q := 340) dL_drives_336 rfl ?_
    refine ag_kill_5 ?_
    exact A_L_drives_b340 K hN   x2 x6 x7 x8 x9 x10 (1 : Int32) σ
  refine ag_iload_10 (q := 325) dL_drives_323 rfl ?_
  refine ag_goto (q := 332) dL_drives_325 rfl ?_
  refine ag_icmp_gt (tgt := 339) (q := 335) dL_drives_332 rfl rfl ?_ ?_
  · refine ag_iconst (q := 340) (v := 0) dL_drives_339 rfl (by decide) ?_
    refine ag_kill_5 ?_
    exact A_L_drives_b340 K hN   x2 x6 x7 x8 x9 x10 (0 : Int32) σ
  refine ag_iconst (q := 336) (v := 1) dL_drives_335 rfl (by decide) ?_
  refine ag_goto (q := 340) dL_drives_336 rfl ?_
  refine ag_kill_5 ?_
  exact A_L_drives_b340 K hN   x2 x6 x7 x8 x9 x10 (1 : Int32) σ
def J_L_drives_b219  (x2 : Int32) (x4 : Int32) (x5 : Int32) (x6 : Int32) (x7 : Int32) (x8 : Int32) (x9 : Int32) (x10 : Int32) (x11 : Int32) (w0 : Int32) (w1 : Int32) (σ : Sg) : Option (Int32 × Sg) :=
  (if w1 = w0 then (if x11 = 0 then (bd1 (J_X7_count (3 : Int32) σ) fun r231 => (if r231 = x6 then (bd1 (J_X7_count (10 : Int32) σ) fun r242 => (if r242 = x7 then (some ((1 : Int32), σ)) else (some ((0 : Int32), σ)))) else (some ((0 : Int32), σ)))) else (bd1 (J_X7_beast x2 (2 : Int32) σ) fun r259 => (bd1 (J_X7_count (3 : Int32) σ) fun r266 => (if r266 = (x6 + (1 : Int32)) then (if r259 = x4 then (if x5 < 0 then (J_L_drives_b307   x2 x5 x6 x7 x8 x9 x10 σ) else (bd1 (J_X7_beast x5 (2 : Int32) σ) fun r299 => (if r299 = (-4 : Int32) then (J_L_drives_b307   x2 x5 x6 x7 x8 x9 x10 σ) else (J_L_drives_b340   x2 x6 x7 x8 x9 x10 (0 : Int32) σ)))) else (if r259 = (-4 : Int32) then (if x5 < 0 then (J_L_drives_b307   x2 x5 x6 x7 x8 x9 x10 σ) else (bd1 (J_X7_beast x5 (2 : Int32) σ) fun r299 => (if r299 = (-4 : Int32) then (J_L_drives_b307   x2 x5 x6 x7 x8 x9 x10 σ) else (J_L_drives_b340   x2 x6 x7 x8 x9 x10 (0 : Int32) σ)))) else (J_L_drives_b340   x2 x6 x7 x8 x9 x10 (0 : Int32) σ))) else (J_L_drives_b340   x2 x6 x7 x8 x9 x10 (0 : Int32) σ))))) else (some ((0 : Int32), σ)))
set_option maxHeartbeats 4000000 in
theorem A_L_drives_b219 (K : KT) {N : Nat} (hN : NT ≤ N)  (x2 : Int32) (x4 : Int32) (x5 : Int32) (x6 : Int32) (x7 : Int32) (x8 : Int32) (x9 : Int32) (x10 : Int32) (x11 : Int32) (w0 : Int32) (w1 : Int32) (σ : Sg) : AG K mL_drives N (fun a : Int32 × Sg => (some (.int a.1), N, R0, a.2)) (J_L_drives_b219   x2 x4 x5 x6 x7 x8 x9 x10 x11 w0 w1 σ) 219 [some (.ref 0), none, some (.int x2), none, some (.int x4), some (.int x5), some (.int x6), some (.int x7), some (.int x8), some (.int x9), some (.int x10), some (.int x11), none, none] [.int w0, .int w1] σ := by
  unfold J_L_drives_b219
  refine ag_icmp_eq (tgt := 224) (q := 222) dL_drives_219 rfl rfl ?_ ?_
  · refine ag_iload_11 (q := 226) dL_drives_224 rfl ?_
    refine ag_if_ne (tgt := 256) (q := 229) dL_drives_226 rfl rfl ?_ ?_
    · refine ag_aload_0 (q := 257) dL_drives_256 rfl ?_
      refine ag_iload_2 (q := 258) dL_drives_257 rfl ?_
      refine ag_iconst (q := 259) (v := 2) dL_drives_258 rfl (by decide) ?_
      refine ag_callV_pI (q := 262) (av := [.int _, .int _]) (rest := []) dL_drives_259 rfl lkL_49 (C_X7_beast (Nat.le_trans (by decide) hN) x2 (2 : Int32) _) (by decide) (Nat.le_of_ble_eq_true rfl) (Nat.lt_of_lt_of_le (by decide : 0 < NT) hN) (congrArg Prod.fst s_0) (by decide) (fun _ => rfl) (Nat.le_of_ble_eq_true rfl) rfl (fun r259 e259 => ?_)
      refine ag_istore_12 (q := 264) dL_drives_262 rfl (Nat.le_of_ble_eq_true rfl) rfl ?_
      refine ag_aload_0 (q := 265) dL_drives_264 rfl ?_
      refine ag_iconst (q := 266) (v := 3) dL_drives_265 rfl (by decide) ?_
      refine ag_callV_pI (q := 269) (av := [.int _]) (rest := []) dL_drives_266 rfl lkL_52 (C_X7_count (Nat.le_trans (by decide) hN) (3 : Int32) _) (by decide) (Nat.le_of_ble_eq_true rfl) (Nat.lt_of_lt_of_le (by decide : 0 < NT) hN) (congrArg Prod.fst s_0) (by decide) (fun _ => rfl) (Nat.le_of_ble_eq_true rfl) rfl (fun r266 e266 => ?_)
      refine ag_iload_6 (q := 271) dL_drives_269 rfl ?_
      refine ag_iconst (q := 272) (v := 1) dL_drives_271 rfl (by decide) ?_
      refine ag_iadd (q := 273) dL_drives_272 rfl ?_
      refine ag_icmp_ne (tgt := 339) (q := 276) dL_drives_273 rfl rfl ?_ ?_
      · refine ag_iconst (q := 340) (v := 0) dL_drives_339 rfl (by decide) ?_
        refine ag_kill_4 ?_
        refine ag_kill_5 ?_
        refine ag_kill_11 ?_
        refine ag_kill_12 ?_
        exact A_L_drives_b340 K hN   x2 x6 x7 x8 x9 x10 (0 : Int32) σ
      refine ag_iload_12 (q := 278) dL_drives_276 rfl ?_
      refine ag_iload_4 (q := 280) dL_drives_278 rfl ?_
      refine ag_icmp_eq (tgt := 290) (q := 283) dL_drives_280 rfl rfl ?_ ?_
      · refine ag_iload_5 (q := 292) dL_drives_290 rfl ?_
        refine ag_if_lt (tgt := 307) (q := 295) dL_drives_292 rfl rfl ?_ ?_
        · refine ag_kill_4 ?_
          refine ag_kill_11 ?_
          refine ag_kill_12 ?_
          exact A_L_drives_b307 K hN   x2 x5 x6 x7 x8 x9 x10 σ
        refine ag_aload_0 (q := 296) dL_drives_295 rfl ?_
        refine ag_iload_5 (q := 298) dL_drives_296 rfl ?_
        refine ag_iconst (q := 299) (v := 2) dL_drives_298 rfl (by decide) ?_
        refine ag_callV_pI (q := 302) (av := [.int _, .int _]) (rest := []) dL_drives_299 rfl lkL_49 (C_X7_beast (Nat.le_trans (by decide) hN) x5 (2 : Int32) _) (by decide) (Nat.le_of_ble_eq_true rfl) (Nat.lt_of_lt_of_le (by decide : 0 < NT) hN) (congrArg Prod.fst s_0) (by decide) (fun _ => rfl) (Nat.le_of_ble_eq_true rfl) rfl (fun r299 e299 => ?_)
        refine ag_bipush (q := 304) (v := -4) dL_drives_302 rfl (by decide) ?_
        refine ag_icmp_ne (tgt := 339) (q := 307) dL_drives_304 rfl rfl ?_ ?_
        · refine ag_iconst (q := 340) (v := 0) dL_drives_339 rfl (by decide) ?_
          refine ag_kill_4 ?_
          refine ag_kill_5 ?_
          refine ag_kill_11 ?_
          refine ag_kill_12 ?_
          exact A_L_drives_b340 K hN   x2 x6 x7 x8 x9 x10 (0 : Int32) σ
        refine ag_kill_4 ?_
        refine ag_kill_11 ?_
        refine ag_kill_12 ?_
        exact A_L_drives_b307 K hN   x2 x5 x6 x7 x8 x9 x10 σ
      refine ag_iload_12 (q := 285) dL_drives_283 rfl ?_
      refine ag_bipush (q := 287) (v := -4) dL_drives_285 rfl (by decide) ?_
      refine ag_icmp_ne (tgt := 339) (q := 290) dL_drives_287 rfl rfl ?_ ?_
      · refine ag_iconst (q := 340) (v := 0) dL_drives_339 rfl (by decide) ?_
        refine ag_kill_4 ?_
        refine ag_kill_5 ?_
        refine ag_kill_11 ?_
        refine ag_kill_12 ?_
        exact A_L_drives_b340 K hN   x2 x6 x7 x8 x9 x10 (0 : Int32) σ
      refine ag_iload_5 (q := 292) dL_drives_290 rfl ?_
      refine ag_if_lt (tgt := 307) (q := 295) dL_drives_292 rfl rfl ?_ ?_
      · refine ag_kill_4 ?_
        refine ag_kill_11 ?_
        refine ag_kill_12 ?_
        exact A_L_drives_b307 K hN   x2 x5 x6 x7 x8 x9 x10 σ
      refine ag_aload_0 (q := 296) dL_drives_295 rfl ?_
      refine ag_iload_5 (q := 298) dL_drives_296 rfl ?_
      refine ag_iconst (q := 299) (v := 2) dL_drives_298 rfl (by decide) ?_
      refine ag_callV_pI (q := 302) (av := [.int _, .int _]) (rest := []) dL_drives_299 rfl lkL_49 (C_X7_beast (Nat.le_trans (by decide) hN) x5 (2 : Int32) _) (by decide) (Nat.le_of_ble_eq_true rfl) (Nat.lt_of_lt_of_le (by decide : 0 < NT) hN) (congrArg Prod.fst s_0) (by decide) (fun _ => rfl) (Nat.le_of_ble_eq_true rfl) rfl (fun r299 e299 => ?_)
      refine ag_bipush (q := 304) (v := -4) dL_drives_302 rfl (by decide) ?_
      refine ag_icmp_ne (tgt := 339) (q := 307) dL_drives_304 rfl rfl ?_ ?_
      · refine ag_iconst (q := 340) (v := 0) dL_drives_339 rfl (by decide) ?_
        refine ag_kill_4 ?_
        refine ag_kill_5 ?_
        refine ag_kill_11 ?_
        refine ag_kill_12 ?_
        exact A_L_drives_b340 K hN   x2 x6 x7 x8 x9 x10 (0 : Int32) σ
      refine ag_kill_4 ?_
      refine ag_kill_11 ?_
      refine ag_kill_12 ?_
      exact A_L_drives_b307 K hN   x2 x5 x6 x7 x8 x9 x10 σ
    refine ag_aload_0 (q := 230) dL_drives_229 rfl ?_
    refine ag_iconst (q := 231) (v := 3) dL_drives_230 rfl (by decide) ?_
    refine ag_callV_pI (q := 234) (av := [.int _]) (rest := []) dL_drives_231 rfl lkL_52 (C_X7_count (Nat.le_trans (by decide) hN) (3 : Int32) _) (by decide) (Nat.le_of_ble_eq_true rfl) (Nat.lt_of_lt_of_le (by decide : 0 < NT) hN) (congrArg Prod.fst s_0) (by decide) (fun _ => rfl) (Nat.le_of_ble_eq_true rfl) rfl (fun r231 e231 => ?_)
    refine ag_iload_6 (q := 236) dL_drives_234 rfl ?_
    refine ag_icmp_ne (tgt := 254) (q := 239) dL_drives_236 rfl rfl ?_ ?_
    · refine ag_iconst (q := 255) (v := 0) dL_drives_254 rfl (by decide) ?_
      exact ag_zretK dL_drives_255 rfl (by decide) rfl
    refine ag_aload_0 (q := 240) dL_drives_239 rfl ?_
    refine ag_bipush (q := 242) (v := 10) dL_drives_240 rfl (by decide) ?_
    refine ag_callV_pI (q := 245) (av := [.int _]) (rest := []) dL_drives_242 rfl lkL_52 (C_X7_count (Nat.le_trans (by decide) hN) (10 : Int32) _) (by decide) (Nat.le_of_ble_eq_true rfl) (Nat.lt_of_lt_of_le (by decide : 0 < NT) hN) (congrArg Prod.fst s_0) (by decide) (fun _ => rfl) (Nat.le_of_ble_eq_true rfl) rfl (fun r242 e242 => ?_)
    refine ag_iload_7 (q := 247) dL_drives_245 rfl ?_
    refine ag_icmp_ne (tgt := 254) (q := 250) dL_drives_247 rfl rfl ?_ ?_
    · refine ag_iconst (q := 255) (v := 0) dL_drives_254 rfl (by decide) ?_
      exact ag_zretK dL_drives_255 rfl (by decide) rfl
    refine ag_iconst (q := 251) (v := 1) dL_drives_250 rfl (by decide) ?_
    refine ag_goto (q := 255) dL_drives_251 rfl ?_
    exact ag_zretK dL_drives_255 rfl (by decide) rfl
  refine ag_iconst (q := 223) (v := 0) dL_drives_222 rfl (by decide) ?_
  exact ag_zretK dL_drives_223 rfl (by decide) rfl
def J_L_drives_b180  (x2 : Int32) (x3 : Int32) (x4 : Int32) (x5 : Int32) (x6 : Int32) (x7 : Int32) (x8 : Int32) (x9 : Int32) (x10 : Int32) (x11 : Int32) (σ : Sg) : Option (Int32 × Sg) :=
  (if x5 < 0 then (bd2 (J_X7_drive x2 x3 σ) fun r204 s204 => (if x11 = 0 then (J_L_drives_b219   x2 x4 x5 x6 x7 x8 x9 x10 x11 (-2 : Int32) r204 s204) else (J_L_drives_b219   x2 x4 x5 x6 x7 x8 x9 x10 x11 x4 r204 s204))) else (bd1 (J_X7_beast x5 (1 : Int32) σ) fun r189 => (bd1 (J_X7_beast x2 (1 : Int32) σ) fun r195 => (if r189 = r195 then (some ((0 : Int32), σ)) else (bd2 (J_X7_drive x2 x3 σ) fun r204 s204 => (if x11 = 0 then (J_L_drives_b219   x2 x4 x5 x6 x7 x8 x9 x10 x11 (-2 : Int32) r204 s204) else (J_L_drives_b219   x2 x4 x5 x6 x7 x8 x9 x10 x11 x4 r204 s204)))))))
set_option maxHeartbeats 4000000 in
theorem A_L_drives_b180 (K : KT) {N : Nat} (hN : NT ≤ N)  (x2 : Int32) (x3 : Int32) (x4 : Int32) (x5 : Int32) (x6 : Int32) (x7 : Int32) (x8 : Int32) (x9 : Int32) (x10 : Int32) (x11 : Int32) (σ : Sg) : AG K mL_drives N (fun a : Int32 × Sg => (some (.int a.1), N, R0, a.2)) (J_L_drives_b180   x2 x3 x4 x5 x6 x7 x8 x9 x10 x11 σ) 180 [some (.ref 0), none, some (.int x2), some (.int x3), some (.int x4), some (.int x5), some (.int x6), some (.int x7), some (.int x8), some (.int x9), some (.int x10), some (.int x11), none, none] [] σ := by
  unfold J_L_drives_b180
  refine ag_iload_5 (q := 182) dL_drives_180 rfl ?_
  refine ag_if_lt (tgt := 201) (q := 185) dL_drives_182 rfl rfl ?_ ?_
  · refine ag_aload_0 (q := 202) dL_drives_201 rfl ?_
    refine ag_iload_2 (q := 203) dL_drives_202 rfl ?_
    refine ag_iload_3 (q := 204) dL_drives_203 rfl ?_
    refine ag_callV_mI (q := 207) (av := [.int _, .int _]) (rest := []) dL_drives_204 rfl lkL_61 (C_X7_drive (Nat.le_trans (by decide) hN) x2 x3 _) (by decide) (Nat.le_of_ble_eq_true rfl) (Nat.lt_of_lt_of_le (by decide : 0 < NT) hN) (congrArg Prod.fst s_0) (by decide) (fun _ => rfl) (Nat.le_of_ble_eq_true rfl) rfl (fun r204 s204 e204 => ?_)
    refine ag_iload_11 (q := 209) dL_drives_207 rfl ?_
    refine ag_if_eq (tgt := 217) (q := 212) dL_drives_209 rfl rfl ?_ ?_
    · refine ag_bipush (q := 219) (v := -2) dL_drives_217 rfl (by decide) ?_
      refine ag_kill_3 ?_
      exact A_L_drives_b219 K hN   x2 x4 x5 x6 x7 x8 x9 x10 x11 (-2 : Int32) r204 s204
    refine ag_iload_4 (q := 214) dL_drives_212 rfl ?_
    refine ag_goto (q := 219) dL_drives_214 rfl ?_
    refine ag_kill_3 ?_
    exact A_L_drives_b219 K hN   x2 x4 x5 x6 x7 x8 x9 x10 x11 x4 r204 s204
  refine ag_aload_0 (q := 186) dL_drives_185 rfl ?_
  refine ag_iload_5 (q := 188) dL_drives_186 rfl ?_
  refine ag_iconst (q := 189) (v := 1) dL_drives_188 rfl (by decide) ?_
  refine ag_callV_pI (q := 192) (av := [.int _, .int _]) (rest := []) dL_drives_189 rfl lkL_49 (C_X7_beast (Nat.le_trans (by decide) hN) x5 (1 : Int32) _) (by decide) (Nat.le_of_ble_eq_true rfl) (Nat.lt_of_lt_of_le (by decide : 0 < NT) hN) (congrArg Prod.fst s_0) (by decide) (fun _ => rfl) (Nat.le_of_ble_eq_true rfl) rfl (fun r189 e189 => ?_)
  refine ag_aload_0 (q := 193) dL_drives_192 rfl ?_
  refine ag_iload_2 (q := 194) dL_drives_193 rfl ?_
  refine ag_iconst (q := 195) (v := 1) dL_drives_194 rfl (by decide) ?_
  refine ag_callV_pI (q := 198) (av := [.int _, .int _]) (rest := [.int _]) dL_drives_195 rfl lkL_49 (C_X7_beast (Nat.le_trans (by decide) hN) x2 (1 : Int32) _) (by decide) (Nat.le_of_ble_eq_true rfl) (Nat.lt_of_lt_of_le (by decide : 0 < NT) hN) (congrArg Prod.fst s_0) (by decide) (fun _ => rfl) (Nat.le_of_ble_eq_true rfl) rfl (fun r195 e195 => ?_)
  refine ag_icmp_eq (tgt := 222) (q := 201) dL_drives_198 rfl rfl ?_ ?_
  · refine ag_iconst (q := 223) (v := 0) dL_drives_222 rfl (by decide) ?_
    exact ag_zretK dL_drives_223 rfl (by decide) rfl
  refine ag_aload_0 (q := 202) dL_drives_201 rfl ?_
  refine ag_iload_2 (q := 203) dL_drives_202 rfl ?_
  refine ag_iload_3 (q := 204) dL_drives_203 rfl ?_
  refine ag_callV_mI (q := 207) (av := [.int _, .int _]) (rest := []) dL_drives_204 rfl lkL_61 (C_X7_drive (Nat.le_trans (by decide) hN) x2 x3 _) (by decide) (Nat.le_of_ble_eq_true rfl) (Nat.lt_of_lt_of_le (by decide : 0 < NT) hN) (congrArg Prod.fst s_0) (by decide) (fun _ => rfl) (Nat.le_of_ble_eq_true rfl) rfl (fun r204 s204 e204 => ?_)
  refine ag_iload_11 (q := 209) dL_drives_207 rfl ?_
  refine ag_if_eq (tgt := 217) (q := 212) dL_drives_209 rfl rfl ?_ ?_
  · refine ag_bipush (q := 219) (v := -2) dL_drives_217 rfl (by decide) ?_
    refine ag_kill_3 ?_
    exact A_L_drives_b219 K hN   x2 x4 x5 x6 x7 x8 x9 x10 x11 (-2 : Int32) r204 s204
  refine ag_iload_4 (q := 214) dL_drives_212 rfl ?_
  refine ag_goto (q := 219) dL_drives_214 rfl ?_
  refine ag_kill_3 ?_
  exact A_L_drives_b219 K hN   x2 x4 x5 x6 x7 x8 x9 x10 x11 x4 r204 s204
def J_L_drives_b141  (x2 : Int32) (x3 : Int32) (x4 : Int32) (x5 : Int32) (x6 : Int32) (x7 : Int32) (x8 : Int32) (x9 : Int32) (x10 : Int32) (x11 : Int32) (w0 : Int32) (w1 : Int32) (σ : Sg) : Option (Int32 × Sg) :=
  (if w1 = w0 then (if x4 < 0 then (J_L_drives_b180   x2 x3 x4 x5 x6 x7 x8 x9 x10 x11 σ) else (if x4 = x8 then (some ((0 : Int32), σ)) else (bd1 (J_X7_square x4 (0 : Int32) σ) fun r160 => (if r160 = (9 : Int32) then (some ((0 : Int32), σ)) else (bd1 (J_X7_square x4 (1 : Int32) σ) fun r172 => (if r172 = x5 then (J_L_drives_b180   x2 x3 x4 x5 x6 x7 x8 x9 x10 x11 σ) else (some ((0 : Int32), σ)))))))) else (some ((0 : Int32), σ)))
set_option maxHeartbeats 4000000 in
theorem A_L_drives_b141 (K : KT) {N : Nat} (hN : NT ≤ N)  (x2 : Int32) (x3 : Int32) (x4 : Int32) (x5 : Int32) (x6 : Int32) (x7 : Int32) (x8 : Int32) (x9 : Int32) (x10 : Int32) (x11 : Int32) (w0 : Int32) (w1 : Int32) (σ : Sg) : AG K mL_drives N (fun a : Int32 × Sg => (some (.int a.1), N, R0, a.2)) (J_L_drives_b141   x2 x3 x4 x5 x6 x7 x8 x9 x10 x11 w0 w1 σ) 141 [some (.ref 0), none, some (.int x2), some (.int x3), some (.int x4), some (.int x5), some (.int x6), some (.int x7), some (.int x8), some (.int x9), some (.int x10), some (.int x11), none, none] [.int w0, .int w1] σ := by
  unfold J_L_drives_b141
  refine ag_icmp_ne (tgt := 222) (q := 144) dL_drives_141 rfl rfl ?_ ?_
  · refine ag_iconst (q := 223) (v := 0) dL_drives_222 rfl (by decide) ?_
    exact ag_zretK dL_drives_223 rfl (by decide) rfl
  refine ag_iload_4 (q := 146) dL_drives_144 rfl ?_
  refine ag_if_lt (tgt := 180) (q := 149) dL_drives_146 rfl rfl ?_ ?_
  · exact A_L_drives_b180 K hN   x2 x3 x4 x5 x6 x7 x8 x9 x10 x11 σ
  refine ag_iload_4 (q := 151) dL_drives_149 rfl ?_
  refine ag_iload_8 (q := 153) dL_drives_151 rfl ?_
  refine ag_icmp_eq (tgt := 222) (q := 156) dL_drives_153 rfl rfl ?_ ?_
  · refine ag_iconst (q := 223) (v := 0) dL_drives_222 rfl (by decide) ?_
    exact ag_zretK dL_drives_223 rfl (by decide) rfl
  refine ag_aload_0 (q := 157) dL_drives_156 rfl ?_
  refine ag_iload_4 (q := 159) dL_drives_157 rfl ?_
  refine ag_iconst (q := 160) (v := 0) dL_drives_159 rfl (by decide) ?_
  refine ag_callV_pI (q := 163) (av := [.int _, .int _]) (rest := []) dL_drives_160 rfl lkL_46 (C_X7_square (Nat.le_trans (by decide) hN) x4 (0 : Int32) _) (by decide) (Nat.le_of_ble_eq_true rfl) (Nat.lt_of_lt_of_le (by decide : 0 < NT) hN) (congrArg Prod.fst s_0) (by decide) (fun _ => rfl) (Nat.le_of_ble_eq_true rfl) rfl (fun r160 e160 => ?_)
  refine ag_bipush (q := 165) (v := 9) dL_drives_163 rfl (by decide) ?_
  refine ag_icmp_eq (tgt := 222) (q := 168) dL_drives_165 rfl rfl ?_ ?_
  · refine ag_iconst (q := 223) (v := 0) dL_drives_222 rfl (by decide) ?_
    exact ag_zretK dL_drives_223 rfl (by decide) rfl
  refine ag_aload_0 (q := 169) dL_drives_168 rfl ?_
  refine ag_iload_4 (q := 171) dL_drives_169 rfl ?_
  refine ag_iconst (q := 172) (v := 1) dL_drives_171 rfl (by decide) ?_
  refine ag_callV_pI (q := 175) (av := [.int _, .int _]) (rest := []) dL_drives_172 rfl lkL_46 (C_X7_square (Nat.le_trans (by decide) hN) x4 (1 : Int32) _) (by decide) (Nat.le_of_ble_eq_true rfl) (Nat.lt_of_lt_of_le (by decide : 0 < NT) hN) (congrArg Prod.fst s_0) (by decide) (fun _ => rfl) (Nat.le_of_ble_eq_true rfl) rfl (fun r172 e172 => ?_)
  refine ag_iload_5 (q := 177) dL_drives_175 rfl ?_
  refine ag_icmp_ne (tgt := 222) (q := 180) dL_drives_177 rfl rfl ?_ ?_
  · refine ag_iconst (q := 223) (v := 0) dL_drives_222 rfl (by decide) ?_
    exact ag_zretK dL_drives_223 rfl (by decide) rfl
  exact A_L_drives_b180 K hN   x2 x3 x4 x5 x6 x7 x8 x9 x10 x11 σ
def J_L_drives_b116  (x2 : Int32) (x3 : Int32) (x4 : Int32) (x5 : Int32) (x6 : Int32) (x7 : Int32) (x8 : Int32) (x9 : Int32) (x10 : Int32) (x11 : Int32) (w0 : Int32) (w1 : Int32) (σ : Sg) : Option (Int32 × Sg) :=
  (if w1 = w0 then (if x5 = (-2 : Int32) then (if 0 ≤ x8 then (J_L_drives_b141   x2 x3 x4 x5 x6 x7 x8 x9 x10 x11 (0 : Int32) (1 : Int32) σ) else (J_L_drives_b141   x2 x3 x4 x5 x6 x7 x8 x9 x10 x11 (1 : Int32) (1 : Int32) σ)) else (if 0 ≤ x8 then (J_L_drives_b141   x2 x3 x4 x5 x6 x7 x8 x9 x10 x11 (0 : Int32) (0 : Int32) σ) else (J_L_drives_b141   x2 x3 x4 x5 x6 x7 x8 x9 x10 x11 (1 : Int32) (0 : Int32) σ))) else (some ((0 : Int32), σ)))
set_option maxHeartbeats 4000000 in
theorem A_L_drives_b116 (K : KT) {N : Nat} (hN : NT ≤ N)  (x2 : Int32) (x3 : Int32) (x4 : Int32) (x5 : Int32) (x6 : Int32) (x7 : Int32) (x8 : Int32) (x9 : Int32) (x10 : Int32) (x11 : Int32) (w0 : Int32) (w1 : Int32) (σ : Sg) : AG K mL_drives N (fun a : Int32 × Sg => (some (.int a.1), N, R0, a.2)) (J_L_drives_b116   x2 x3 x4 x5 x6 x7 x8 x9 x10 x11 w0 w1 σ) 116 [some (.ref 0), none, some (.int x2), some (.int x3), some (.int x4), some (.int x5), some (.int x6), some (.int x7), some (.int x8), some (.int x9), some (.int x10), some (.int x11), none, none] [.int w0, .int w1] σ := by
  unfold J_L_drives_b116
  refine ag_icmp_ne (tgt := 222) (q := 119) dL_drives_116 rfl rfl ?_ ?_
  · refine ag_iconst (q := 223) (v := 0) dL_drives_222 rfl (by decide) ?_
    exact ag_zretK dL_drives_223 rfl (by decide) rfl
  refine ag_iload_5 (q := 121) dL_drives_119 rfl ?_
  refine ag_bipush (q := 123) (v := -2) dL_drives_121 rfl (by decide) ?_
  refine ag_icmp_ne (tgt := 130) (q := 126) dL_drives_123 rfl rfl ?_ ?_
  · refine ag_iconst (q := 131) (v := 0) dL_drives_130 rfl (by decide) ?_
    refine ag_iload_8 (q := 133) dL_drives_131 rfl ?_
    refine ag_if_ge (tgt := 140) (q := 136) dL_drives_133 rfl rfl ?_ ?_
    · refine ag_iconst (q := 141) (v := 0) dL_drives_140 rfl (by decide) ?_
      exact A_L_drives_b141 K hN   x2 x3 x4 x5 x6 x7 x8 x9 x10 x11 (0 : Int32) (0 : Int32) σ
    refine ag_iconst (q := 137) (v := 1) dL_drives_136 rfl (by decide) ?_
    refine ag_goto (q := 141) dL_drives_137 rfl ?_
    exact A_L_drives_b141 K hN   x2 x3 x4 x5 x6 x7 x8 x9 x10 x11 (1 : Int32) (0 : Int32) σ
  refine ag_iconst (q := 127) (v := 1) dL_drives_126 rfl (by decide) ?_
  refine ag_goto (q := 131) dL_drives_127 rfl ?_
  refine ag_iload_8 (q := 133) dL_drives_131 rfl ?_
  refine ag_if_ge (tgt := 140) (q := 136) dL_drives_133 rfl rfl ?_ ?_
  · refine ag_iconst (q := 141) (v := 0) dL_drives_140 rfl (by decide) ?_
    exact A_L_drives_b141 K hN   x2 x3 x4 x5 x6 x7 x8 x9 x10 x11 (0 : Int32) (1 : Int32) σ
  refine ag_iconst (q := 137) (v := 1) dL_drives_136 rfl (by decide) ?_
  refine ag_goto (q := 141) dL_drives_137 rfl ?_
  exact A_L_drives_b141 K hN   x2 x3 x4 x5 x6 x7 x8 x9 x10 x11 (1 : Int32) (1 : Int32) σ
def J_L_drives_b92  (x2 : Int32) (x3 : Int32) (x4 : Int32) (x5 : Int32) (x6 : Int32) (x7 : Int32) (x8 : Int32) (x9 : Int32) (x10 : Int32) (w0 : Int32) (σ : Sg) : Option (Int32 × Sg) :=
  (if x4 = (-2 : Int32) then (if 0 ≤ x8 then (J_L_drives_b116   x2 x3 x4 x5 x6 x7 x8 x9 x10 w0 (0 : Int32) (1 : Int32) σ) else (J_L_drives_b116   x2 x3 x4 x5 x6 x7 x8 x9 x10 w0 (1 : Int32) (1 : Int32) σ)) else (if 0 ≤ x8 then (J_L_drives_b116   x2 x3 x4 x5 x6 x7 x8 x9 x10 w0 (0 : Int32) (0 : Int32) σ) else (J_L_drives_b116   x2 x3 x4 x5 x6 x7 x8 x9 x10 w0 (1 : Int32) (0 : Int32) σ)))
set_option maxHeartbeats 4000000 in
theorem A_L_drives_b92 (K : KT) {N : Nat} (hN : NT ≤ N)  (x2 : Int32) (x3 : Int32) (x4 : Int32) (x5 : Int32) (x6 : Int32) (x7 : Int32) (x8 : Int32) (x9 : Int32) (x10 : Int32) (w0 : Int32) (σ : Sg) : AG K mL_drives N (fun a : Int32 × Sg => (some (.int a.1), N, R0, a.2)) (J_L_drives_b92   x2 x3 x4 x5 x6 x7 x8 x9 x10 w0 σ) 92 [some (.ref 0), none, some (.int x2), some (.int x3), some (.int x4), some (.int x5), some (.int x6), some (.int x7), some (.int x8), some (.int x9), some (.int x10), none, none, none] [.int w0] σ := by
  unfold J_L_drives_b92
  refine ag_istore_11 (q := 94) dL_drives_92 rfl (Nat.le_of_ble_eq_true rfl) rfl ?_
  refine ag_iload_4 (q := 96) dL_drives_94 rfl ?_
  refine ag_bipush (q := 98) (v := -2) dL_drives_96 rfl (by decide) ?_
  refine ag_icmp_ne (tgt := 105) (q := 101) dL_drives_98 rfl rfl ?_ ?_
  · refine ag_iconst (q := 106) (v := 0) dL_drives_105 rfl (by decide) ?_
    refine ag_iload_8 (q := 108) dL_drives_106 rfl ?_
    refine ag_if_ge (tgt := 115) (q := 111) dL_drives_108 rfl rfl ?_ ?_
    · refine ag_iconst (q := 116) (v := 0) dL_drives_115 rfl (by decide) ?_
      exact A_L_drives_b116 K hN   x2 x3 x4 x5 x6 x7 x8 x9 x10 w0 (0 : Int32) (0 : Int32) σ
    refine ag_iconst (q := 112) (v := 1) dL_drives_111 rfl (by decide) ?_
    refine ag_goto (q := 116) dL_drives_112 rfl ?_
    exact A_L_drives_b116 K hN   x2 x3 x4 x5 x6 x7 x8 x9 x10 w0 (1 : Int32) (0 : Int32) σ
  refine ag_iconst (q := 102) (v := 1) dL_drives_101 rfl (by decide) ?_
  refine ag_goto (q := 106) dL_drives_102 rfl ?_
  refine ag_iload_8 (q := 108) dL_drives_106 rfl ?_
  refine ag_if_ge (tgt := 115) (q := 111) dL_drives_108 rfl rfl ?_ ?_
  · refine ag_iconst (q := 116) (v := 0) dL_drives_115 rfl (by decide) ?_
    exact A_L_drives_b116 K hN   x2 x3 x4 x5 x6 x7 x8 x9 x10 w0 (0 : Int32) (1 : Int32) σ
  refine ag_iconst (q := 112) (v := 1) dL_drives_111 rfl (by decide) ?_
  refine ag_goto (q := 116) dL_drives_112 rfl ?_
  exact A_L_drives_b116 K hN   x2 x3 x4 x5 x6 x7 x8 x9 x10 w0 (1 : Int32) (1 : Int32) σ
def J_L_drives (a2 : Int32) (a3 : Int32) (σ : Sg) : Option (Int32 × Sg) :=
  (bd1 (J_X7_goes a2 a3 σ) fun r3 => (bd1 (J_X7_takes a2 a3 σ) fun r11 => (bd1 (J_X7_count (3 : Int32) σ) fun r18 => (bd1 (J_X7_count (10 : Int32) σ) fun r26 => (bd1 (J_X7_beast a2 (2 : Int32) σ) fun r34 => (bd1 (J_X7_count (8 : Int32) σ) fun r42 => (bd1 (J_X7_count (4 : Int32) σ) fun r49 => (bd1 (J_X7_count (5 : Int32) σ) fun r54 => (if r3 < 0 then (J_L_drives_b92   a2 a3 r3 r11 r18 r26 r34 r42 (r49 + r54) (0 : Int32) σ) else (bd1 (J_X7_beast a2 (1 : Int32) σ) fun r68 => (if r68 = (rmI r18 (2 : Int32)) then (bd1 (J_X7_count (7 : Int32) σ) fun r81 => (if r81 = 0 then (J_L_drives_b92   a2 a3 r3 r11 r18 r26 r34 r42 (r49 + r54) (1 : Int32) σ) else (J_L_drives_b92   a2 a3 r3 r11 r18 r26 r34 r42 (r49 + r54) (0 : Int32) σ))) else (J_L_drives_b92   a2 a3 r3 r11 r18 r26 r34 r42 (r49 + r54) (0 : Int32) σ))))))))))))
set_option maxHeartbeats 4000000 in
theorem A_L_drives (K : KT) {N : Nat} (hN : NT ≤ N) (a2 : Int32) (a3 : Int32) (σ : Sg) : AG K mL_drives N (fun a : Int32 × Sg => (some (.int a.1), N, R0, a.2)) (J_L_drives a2 a3 σ) 0 [some (.ref 0), some (.ref 141), some (.int a2), some (.int a3), none, none, none, none, none, none, none, none, none, none] [] σ := by
  unfold J_L_drives
  refine ag_aload_0 (q := 1) dL_drives_0 rfl ?_
  refine ag_iload_2 (q := 2) dL_drives_1 rfl ?_
  refine ag_iload_3 (q := 3) dL_drives_2 rfl ?_
  refine ag_callV_pI (q := 6) (av := [.int _, .int _]) (rest := []) dL_drives_3 rfl lkL_55 (C_X7_goes (Nat.le_trans (by decide) hN) a2 a3 _) (by decide) (Nat.le_of_ble_eq_true rfl) (Nat.lt_of_lt_of_le (by decide : 0 < NT) hN) (congrArg Prod.fst s_0) (by decide) (fun _ => rfl) (Nat.le_of_ble_eq_true rfl) rfl (fun r3 e3 => ?_)
  refine ag_istore_4 (q := 8) dL_drives_6 rfl (Nat.le_of_ble_eq_true rfl) rfl ?_
  refine ag_aload_0 (q := 9) dL_drives_8 rfl ?_
  refine ag_iload_2 (q := 10) dL_drives_9 rfl ?_
  refine ag_iload_3 (q := 11) dL_drives_10 rfl ?_
  refine ag_callV_pI (q := 14) (av := [.int _, .int _]) (rest := []) dL_drives_11 rfl lkL_58 (C_X7_takes (Nat.le_trans (by decide) hN) a2 a3 _) (by decide) (Nat.le_of_ble_eq_true rfl) (Nat.lt_of_lt_of_le (by decide : 0 < NT) hN) (congrArg Prod.fst s_0) (by decide) (fun _ => rfl) (Nat.le_of_ble_eq_true rfl) rfl (fun r11 e11 => ?_)
  refine ag_istore_5 (q := 16) dL_drives_14 rfl (Nat.le_of_ble_eq_true rfl) rfl ?_
  refine ag_aload_0 (q := 17) dL_drives_16 rfl ?_
  refine ag_iconst (q := 18) (v := 3) dL_drives_17 rfl (by decide) ?_
  refine ag_callV_pI (q := 21) (av := [.int _]) (rest := []) dL_drives_18 rfl lkL_52 (C_X7_count (Nat.le_trans (by decide) hN) (3 : Int32) _) (by decide) (Nat.le_of_ble_eq_true rfl) (Nat.lt_of_lt_of_le (by decide : 0 < NT) hN) (congrArg Prod.fst s_0) (by decide) (fun _ => rfl) (Nat.le_of_ble_eq_true rfl) rfl (fun r18 e18 => ?_)
  refine ag_istore_6 (q := 23) dL_drives_21 rfl (Nat.le_of_ble_eq_true rfl) rfl ?_
  refine ag_aload_0 (q := 24) dL_drives_23 rfl ?_
  refine ag_bipush (q := 26) (v := 10) dL_drives_24 rfl (by decide) ?_
  refine ag_callV_pI (q := 29) (av := [.int _]) (rest := []) dL_drives_26 rfl lkL_52 (C_X7_count (Nat.le_trans (by decide) hN) (10 : Int32) _) (by decide) (Nat.le_of_ble_eq_true rfl) (Nat.lt_of_lt_of_le (by decide : 0 < NT) hN) (congrArg Prod.fst s_0) (by decide) (fun _ => rfl) (Nat.le_of_ble_eq_true rfl) rfl (fun r26 e26 => ?_)
  refine ag_istore_7 (q := 31) dL_drives_29 rfl (Nat.le_of_ble_eq_true rfl) rfl ?_
  refine ag_aload_0 (q := 32) dL_drives_31 rfl ?_
  refine ag_iload_2 (q := 33) dL_drives_32 rfl ?_
  refine ag_iconst (q := 34) (v := 2) dL_drives_33 rfl (by decide) ?_
  refine ag_callV_pI (q := 37) (av := [.int _, .int _]) (rest := []) dL_drives_34 rfl lkL_49 (C_X7_beast (Nat.le_trans (by decide) hN) a2 (2 : Int32) _) (by decide) (Nat.le_of_ble_eq_true rfl) (Nat.lt_of_lt_of_le (by decide : 0 < NT) hN) (congrArg Prod.fst s_0) (by decide) (fun _ => rfl) (Nat.le_of_ble_eq_true rfl) rfl (fun r34 e34 => ?_)
  refine ag_istore_8 (q := 39) dL_drives_37 rfl (Nat.le_of_ble_eq_true rfl) rfl ?_
  refine ag_aload_0 (q := 40) dL_drives_39 rfl ?_
  refine ag_bipush (q := 42) (v := 8) dL_drives_40 rfl (by decide) ?_
  refine ag_callV_pI (q := 45) (av := [.int _]) (rest := []) dL_drives_42 rfl lkL_52 (C_X7_count (Nat.le_trans (by decide) hN) (8 : Int32) _) (by decide) (Nat.le_of_ble_eq_true rfl) (Nat.lt_of_lt_of_le (by decide : 0 < NT) hN) (congrArg Prod.fst s_0) (by decide) (fun _ => rfl) (Nat.le_of_ble_eq_true rfl) rfl (fun r42 e42 => ?_)
  refine ag_istore_9 (q := 47) dL_drives_45 rfl (Nat.le_of_ble_eq_true rfl) rfl ?_
  refine ag_aload_0 (q := 48) dL_drives_47 rfl ?_
  refine ag_iconst (q := 49) (v := 4) dL_drives_48 rfl (by decide) ?_
  refine ag_callV_pI (q := 52) (av := [.int _]) (rest := []) dL_drives_49 rfl lkL_52 (C_X7_count (Nat.le_trans (by decide) hN) (4 : Int32) _) (by decide) (Nat.le_of_ble_eq_true rfl) (Nat.lt_of_lt_of_le (by decide : 0 < NT) hN) (congrArg Prod.fst s_0) (by decide) (fun _ => rfl) (Nat.le_of_ble_eq_true rfl) rfl (fun r49 e49 => ?_)
  refine ag_aload_0 (q := 53) dL_drives_52 rfl ?_
  refine ag_iconst (q := 54) (v := 5) dL_drives_53 rfl (by decide) ?_
  refine ag_callV_pI (q := 57) (av := [.int _]) (rest := [.int _]) dL_drives_54 rfl lkL_52 (C_X7_count (Nat.le_trans (by decide) hN) (5 : Int32) _) (by decide) (Nat.le_of_ble_eq_true rfl) (Nat.lt_of_lt_of_le (by decide : 0 < NT) hN) (congrArg Prod.fst s_0) (by decide) (fun _ => rfl) (Nat.le_of_ble_eq_true rfl) rfl (fun r54 e54 => ?_)
  refine ag_iadd (q := 58) dL_drives_57 rfl ?_
  refine ag_istore_10 (q := 60) dL_drives_58 rfl (Nat.le_of_ble_eq_true rfl) rfl ?_
  refine ag_iload_4 (q := 62) dL_drives_60 rfl ?_
  refine ag_if_lt (tgt := 91) (q := 65) dL_drives_62 rfl rfl ?_ ?_
  · refine ag_iconst (q := 92) (v := 0) dL_drives_91 rfl (by decide) ?_
    refine ag_kill_1 ?_
    exact A_L_drives_b92 K hN   a2 a3 r3 r11 r18 r26 r34 r42 (r49 + r54) (0 : Int32) σ
  refine ag_aload_0 (q := 66) dL_drives_65 rfl ?_
  refine ag_iload_2 (q := 67) dL_drives_66 rfl ?_
  refine ag_iconst (q := 68) (v := 1) dL_drives_67 rfl (by decide) ?_
  refine ag_callV_pI (q := 71) (av := [.int _, .int _]) (rest := []) dL_drives_68 rfl lkL_49 (C_X7_beast (Nat.le_trans (by decide) hN) a2 (1 : Int32) _) (by decide) (Nat.le_of_ble_eq_true rfl) (Nat.lt_of_lt_of_le (by decide : 0 < NT) hN) (congrArg Prod.fst s_0) (by decide) (fun _ => rfl) (Nat.le_of_ble_eq_true rfl) rfl (fun r68 e68 => ?_)
  refine ag_iload_6 (q := 73) dL_drives_71 rfl ?_
  refine ag_iconst (q := 74) (v := 2) dL_drives_73 rfl (by decide) ?_
  refine ag_iremK (q := 75) dL_drives_74 rfl (by decide) ?_
  refine ag_icmp_ne (tgt := 91) (q := 78) dL_drives_75 rfl rfl ?_ ?_
  · refine ag_iconst (q := 92) (v := 0) dL_drives_91 rfl (by decide) ?_
    refine ag_kill_1 ?_
    exact A_L_drives_b92 K hN   a2 a3 r3 r11 r18 r26 r34 r42 (r49 + r54) (0 : Int32) σ
  refine ag_aload_0 (q := 79) dL_drives_78 rfl ?_
  refine ag_bipush (q := 81) (v := 7) dL_drives_79 rfl (by decide) ?_
  refine ag_callV_pI (q := 84) (av := [.int _]) (rest := []) dL_drives_81 rfl lkL_52 (C_X7_count (Nat.le_trans (by decide) hN) (7 : Int32) _) (by decide) (Nat.le_of_ble_eq_true rfl) (Nat.lt_of_lt_of_le (by decide : 0 < NT) hN) (congrArg Prod.fst s_0) (by decide) (fun _ => rfl) (Nat.le_of_ble_eq_true rfl) rfl (fun r81 e81 => ?_)
  refine ag_if_ne (tgt := 91) (q := 87) dL_drives_84 rfl rfl ?_ ?_
  · refine ag_iconst (q := 92) (v := 0) dL_drives_91 rfl (by decide) ?_
    refine ag_kill_1 ?_
    exact A_L_drives_b92 K hN   a2 a3 r3 r11 r18 r26 r34 r42 (r49 + r54) (0 : Int32) σ
  refine ag_iconst (q := 88) (v := 1) dL_drives_87 rfl (by decide) ?_
  refine ag_goto (q := 92) dL_drives_88 rfl ?_
  refine ag_kill_1 ?_
  exact A_L_drives_b92 K hN   a2 a3 r3 r11 r18 r26 r34 r42 (r49 + r54) (1 : Int32) σ
theorem C_L_drives {N : Nat} (hN : NT ≤ N) (a2 : Int32) (a3 : Int32) (σ : Sg) : ∀ r s', J_L_drives a2 a3 σ = some (r, s') → AMc yL_drives mL_drives [.ref 0, .ref 141, .int a2, .int a3] N R0 σ (some (.int r), N, R0, s') := fun r s' e => AMc.of (L := [some (.ref 0), some (.ref 141), some (.int a2), some (.int a3), none, none, none, none, none, none, none, none, none, none]) (by decide) rfl (fun _ => rfl) (fun _ => Nat.le_of_ble_eq_true rfl) (Nat.le_refl _) (fun K => A_L_drives K hN a2 a3 σ _ e (Nat.le_refl _))
