/-! the length of a text that the program holds, and its letters: methods of the library's own String -/
theorem dJ0_length_8abf5_0 : decode cJ0_length_8abf5 0 = .ok (.aload_n 0, 1) := by decide +kernel
theorem dJ0_length_8abf5_1 : decode cJ0_length_8abf5 1 = .ok (.getfield 9, 3) := by decide +kernel
theorem dJ0_length_8abf5_4 : decode cJ0_length_8abf5 4 = .ok (.arraylength, 1) := by decide +kernel
theorem dJ0_length_8abf5_5 : decode cJ0_length_8abf5 5 = .ok (.aload_n 0, 1) := by decide +kernel
theorem dJ0_length_8abf5_6 : decode cJ0_length_8abf5 6 = .ok (.invokevirtual 335, 3) := by decide +kernel
theorem dJ0_length_8abf5_9 : decode cJ0_length_8abf5 9 = .ok (.ishr, 1) := by decide +kernel
theorem dJ0_length_8abf5_10 : decode cJ0_length_8abf5 10 = .ok (.ireturn, 1) := by decide +kernel
theorem dJ0_charAt_5068e_0 : decode cJ0_charAt_5068e 0 = .ok (.aload_n 0, 1) := by decide +kernel
theorem dJ0_charAt_5068e_1 : decode cJ0_charAt_5068e 1 = .ok (.invokevirtual 492, 3) := by decide +kernel
theorem dJ0_charAt_5068e_4 : decode cJ0_charAt_5068e 4 = .ok (.ifCond .eq 12, 3) := by decide +kernel
theorem dJ0_charAt_5068e_7 : decode cJ0_charAt_5068e 7 = .ok (.aload_n 0, 1) := by decide +kernel
theorem dJ0_charAt_5068e_8 : decode cJ0_charAt_5068e 8 = .ok (.getfield 9, 3) := by decide +kernel
theorem dJ0_charAt_5068e_11 : decode cJ0_charAt_5068e 11 = .ok (.iload_n 1, 1) := by decide +kernel
theorem dJ0_charAt_5068e_12 : decode cJ0_charAt_5068e 12 = .ok (.invokestatic 495, 3) := by decide +kernel
theorem dJ0_charAt_5068e_15 : decode cJ0_charAt_5068e 15 = .ok (.ireturn, 1) := by decide +kernel
theorem dJ0_charAt_5068e_16 : decode cJ0_charAt_5068e 16 = .ok (.aload_n 0, 1) := by decide +kernel
theorem dJ0_charAt_5068e_17 : decode cJ0_charAt_5068e 17 = .ok (.getfield 9, 3) := by decide +kernel
theorem dJ0_charAt_5068e_20 : decode cJ0_charAt_5068e 20 = .ok (.iload_n 1, 1) := by decide +kernel
theorem dJ0_charAt_5068e_21 : decode cJ0_charAt_5068e 21 = .ok (.invokestatic 498, 3) := by decide +kernel
theorem dJ0_charAt_5068e_24 : decode cJ0_charAt_5068e 24 = .ok (.ireturn, 1) := by decide +kernel
theorem dJ0_coder_7d493_0 : decode cJ0_coder_7d493 0 = .ok (.getstatic 38, 3) := by decide +kernel
theorem dJ0_coder_7d493_3 : decode cJ0_coder_7d493 3 = .ok (.ifCond .eq 10, 3) := by decide +kernel
theorem dJ0_coder_7d493_6 : decode cJ0_coder_7d493 6 = .ok (.aload_n 0, 1) := by decide +kernel
theorem dJ0_coder_7d493_7 : decode cJ0_coder_7d493 7 = .ok (.getfield 15, 3) := by decide +kernel
theorem dJ0_coder_7d493_10 : decode cJ0_coder_7d493 10 = .ok (.goto 4, 3) := by decide +kernel
theorem dJ0_coder_7d493_13 : decode cJ0_coder_7d493 13 = .ok (.iconst 1, 1) := by decide +kernel
theorem dJ0_coder_7d493_14 : decode cJ0_coder_7d493 14 = .ok (.ireturn, 1) := by decide +kernel
theorem dJ0_isLatin1_aae02_0 : decode cJ0_isLatin1_aae02 0 = .ok (.getstatic 38, 3) := by decide +kernel
theorem dJ0_isLatin1_aae02_3 : decode cJ0_isLatin1_aae02 3 = .ok (.ifCond .eq 14, 3) := by decide +kernel
theorem dJ0_isLatin1_aae02_6 : decode cJ0_isLatin1_aae02 6 = .ok (.aload_n 0, 1) := by decide +kernel
theorem dJ0_isLatin1_aae02_7 : decode cJ0_isLatin1_aae02 7 = .ok (.getfield 15, 3) := by decide +kernel
theorem dJ0_isLatin1_aae02_10 : decode cJ0_isLatin1_aae02 10 = .ok (.ifCond .ne 7, 3) := by decide +kernel
theorem dJ0_isLatin1_aae02_13 : decode cJ0_isLatin1_aae02 13 = .ok (.iconst 1, 1) := by decide +kernel
theorem dJ0_isLatin1_aae02_14 : decode cJ0_isLatin1_aae02 14 = .ok (.goto 4, 3) := by decide +kernel
theorem dJ0_isLatin1_aae02_17 : decode cJ0_isLatin1_aae02 17 = .ok (.iconst 0, 1) := by decide +kernel
theorem dJ0_isLatin1_aae02_18 : decode cJ0_isLatin1_aae02 18 = .ok (.ireturn, 1) := by decide +kernel
theorem dJ0_checkIndex_df160_0 : decode cJ0_checkIndex_df160 0 = .ok (.iload_n 0, 1) := by decide +kernel
theorem dJ0_checkIndex_df160_1 : decode cJ0_checkIndex_df160 1 = .ok (.iload_n 1, 1) := by decide +kernel
theorem dJ0_checkIndex_df160_2 : decode cJ0_checkIndex_df160 2 = .ok (.getstatic 1053, 3) := by decide +kernel
theorem dJ0_checkIndex_df160_5 : decode cJ0_checkIndex_df160 5 = .ok (.invokestatic 1059, 3) := by decide +kernel
theorem dJ0_checkIndex_df160_8 : decode cJ0_checkIndex_df160 8 = .ok (.pop, 1) := by decide +kernel
theorem dJ0_checkIndex_df160_9 : decode cJ0_checkIndex_df160 9 = .ok (.return_, 1) := by decide +kernel
theorem dJ1_charAt_3b067_0 : decode cJ1_charAt_3b067 0 = .ok (.iload_n 1, 1) := by decide +kernel
theorem dJ1_charAt_3b067_1 : decode cJ1_charAt_3b067 1 = .ok (.aload_n 0, 1) := by decide +kernel
theorem dJ1_charAt_3b067_2 : decode cJ1_charAt_3b067 2 = .ok (.arraylength, 1) := by decide +kernel
theorem dJ1_charAt_3b067_3 : decode cJ1_charAt_3b067 3 = .ok (.invokestatic 9, 3) := by decide +kernel
theorem dJ1_charAt_3b067_6 : decode cJ1_charAt_3b067 6 = .ok (.aload_n 0, 1) := by decide +kernel
theorem dJ1_charAt_3b067_7 : decode cJ1_charAt_3b067 7 = .ok (.iload_n 1, 1) := by decide +kernel
theorem dJ1_charAt_3b067_8 : decode cJ1_charAt_3b067 8 = .ok (.baload, 1) := by decide +kernel
theorem dJ1_charAt_3b067_9 : decode cJ1_charAt_3b067 9 = .ok (.sipush 255, 3) := by decide +kernel
theorem dJ1_charAt_3b067_12 : decode cJ1_charAt_3b067 12 = .ok (.iand, 1) := by decide +kernel
theorem dJ1_charAt_3b067_13 : decode cJ1_charAt_3b067 13 = .ok (.i2c, 1) := by decide +kernel
theorem dJ1_charAt_3b067_14 : decode cJ1_charAt_3b067 14 = .ok (.ireturn, 1) := by decide +kernel
theorem dJ3_checkIndex_8e157_0 : decode cJ3_checkIndex_8e157 0 = .ok (.iload_n 0, 1) := by decide +kernel
theorem dJ3_checkIndex_8e157_1 : decode cJ3_checkIndex_8e157 1 = .ok (.ifCond .lt 8, 3) := by decide +kernel
theorem dJ3_checkIndex_8e157_4 : decode cJ3_checkIndex_8e157 4 = .ok (.iload_n 0, 1) := by decide +kernel
theorem dJ3_checkIndex_8e157_5 : decode cJ3_checkIndex_8e157 5 = .ok (.iload_n 1, 1) := by decide +kernel
theorem dJ3_checkIndex_8e157_6 : decode cJ3_checkIndex_8e157 6 = .ok (.if_icmp .lt 10, 3) := by decide +kernel
theorem dJ3_checkIndex_8e157_9 : decode cJ3_checkIndex_8e157 9 = .ok (.aload_n 2, 1) := by decide +kernel
theorem dJ3_checkIndex_8e157_10 : decode cJ3_checkIndex_8e157 10 = .ok (.iload_n 0, 1) := by decide +kernel
theorem dJ3_checkIndex_8e157_11 : decode cJ3_checkIndex_8e157 11 = .ok (.iload_n 1, 1) := by decide +kernel
theorem dJ3_checkIndex_8e157_12 : decode cJ3_checkIndex_8e157 12 = .ok (.invokestatic 95, 3) := by decide +kernel
theorem dJ3_checkIndex_8e157_15 : decode cJ3_checkIndex_8e157 15 = .ok (.athrow, 1) := by decide +kernel
theorem dJ3_checkIndex_8e157_16 : decode cJ3_checkIndex_8e157 16 = .ok (.iload_n 0, 1) := by decide +kernel
theorem dJ3_checkIndex_8e157_17 : decode cJ3_checkIndex_8e157 17 = .ok (.ireturn, 1) := by decide +kernel
def mJ_coder : MT := (RJ0, cJ0_coder_7d493, 1, some .byte, 1)
def mJ_length : MT := (RJ0, cJ0_length_8abf5, 1, some .int, 2)
def mJ_isLatin1 : MT := (RJ0, cJ0_isLatin1_aae02, 1, some .boolean, 1)
def mJ_pcheck : MT := (RJ3, cJ3_checkIndex_8e157, 3, some .int, 1)
def mJ_check : MT := (RJ0, cJ0_checkIndex_df160, 2, none, 2)
def mJ_charAtL : MT := (RJ1, cJ1_charAt_3b067, 2, some .char, 3)
def mJ_charAt : MT := (RJ0, cJ0_charAt_5068e, 2, some .char, 4)
theorem pdz_a : (parseMethodDescriptor "(IILjava/util/function/BiFunction;)I").map (fun d => d.parameters.length) = some 3 := by decide +kernel
theorem pdz_b : (parseMethodDescriptor "(II)V").map (fun d => d.parameters.length) = some 2 := by decide +kernel
theorem pdz_c : (parseMethodDescriptor "([BI)C").map (fun d => d.parameters.length) = some 2 := by decide +kernel
theorem pdz_d : (parseMethodDescriptor "(I)C").map (fun d => d.parameters.length) = some 1 := by decide +kernel
section STR
variable {n : Nat} {R : Rg} {σ : Sg}
set_option maxRecDepth 100000
theorem ky_coder : AMc yJ0_coder_7d493 mJ_coder [.retAddr 2] n R σ (some (.int 0), n, R, σ) := by
  refine AMc_ofF (L := [some (.retAddr 2)]) (by decide +kernel) rfl (fun _ => rfl) (fun _ => Nat.le_of_ble_eq_true rfl) (Nat.le_refl _) (fun K => ?_)
  refine aw_gcs dJ0_coder_7d493_0 (wTi 268 rfl rfl) (aw_q (q := 3) rfl ?_)
  refine aw_if_eq (tgt := 13) dJ0_coder_7d493_3 rfl (fun z => absurd z (by decide)) (fun _ => (aw_q (q := 6) rfl ?_))
  refine aw_xload_0 dJ0_coder_7d493_6 (aw_q (q := 7) rfl ?_)
  refine aw_gcod dJ0_coder_7d493_7 (wTi 808 rfl rfl) (aw_q (q := 10) rfl ?_)
  refine aw_goto (tgt := 14) dJ0_coder_7d493_10 rfl ?_
  exact aw_nret dJ0_coder_7d493_14 rfl (Or.inr (Or.inl rfl)) rfl rfl
theorem ky_length : AMc yJ0_length_8abf5 mJ_length [.retAddr 2] n R σ (some (.int 113), n, R, σ) := by
  refine AMc_ofF (L := [some (.retAddr 2)]) (by decide +kernel) rfl (fun _ => rfl) (fun _ => Nat.le_of_ble_eq_true rfl) (Nat.le_refl _) (fun K => ?_)
  refine aw_xload_0 dJ0_length_8abf5_0 (aw_q (q := 1) rfl ?_)
  refine aw_gval dJ0_length_8abf5_1 (wTi 807 rfl rfl) (aw_q (q := 4) rfl ?_)
  refine aw_blen dJ0_length_8abf5_4 (aw_q (q := 5) rfl ?_)
  refine aw_xload_0 dJ0_length_8abf5_5 (aw_q (q := 6) rfl ?_)
  refine aw_callX (av := []) (rest := [.int 113]) dJ0_length_8abf5_6 rfl ⟨LV5 (wTi 264 rfl rfl) (wTi 265 rfl rfl) (wTi 266 rfl rfl) (wTi 30 rfl rfl) (wTi 267 rfl rfl), by decide, by decide, by decide +kernel⟩ ky_coder (Nat.le_of_ble_eq_true rfl) (Nat.le_of_ble_eq_true rfl) (Nat.le_refl _) (Nat.le_refl _) (Nat.le_of_ble_eq_true rfl) rfl (aw_q (q := 9) rfl ?_)
  refine aw_ishr dJ0_length_8abf5_9 (aw_q (q := 10) rfl ?_)
  exact aw_iret dJ0_length_8abf5_10 rfl rfl
theorem ky_isLatin1 : AMc yJ0_isLatin1_aae02 mJ_isLatin1 [.retAddr 2] n R σ (some (.int 1), n, R, σ) := by
  refine AMc_ofF (L := [some (.retAddr 2)]) (by decide +kernel) rfl (fun _ => rfl) (fun _ => Nat.le_of_ble_eq_true rfl) (Nat.le_refl _) (fun K => ?_)
  refine aw_gcs dJ0_isLatin1_aae02_0 (wTi 268 rfl rfl) (aw_q (q := 3) rfl ?_)
  refine aw_if_eq (tgt := 17) dJ0_isLatin1_aae02_3 rfl (fun z => absurd z (by decide)) (fun _ => (aw_q (q := 6) rfl ?_))
  refine aw_xload_0 dJ0_isLatin1_aae02_6 (aw_q (q := 7) rfl ?_)
  refine aw_gcod dJ0_isLatin1_aae02_7 (wTi 808 rfl rfl) (aw_q (q := 10) rfl ?_)
  refine aw_if_ne (tgt := 17) dJ0_isLatin1_aae02_10 rfl (fun z => absurd rfl z) (fun _ => (aw_q (q := 13) rfl ?_))
  refine aw_iconst (v := 1) (by decide) dJ0_isLatin1_aae02_13 (aw_q (q := 14) rfl ?_)
  refine aw_goto (tgt := 18) dJ0_isLatin1_aae02_14 rfl ?_
  exact aw_zret dJ0_isLatin1_aae02_18 rfl (Or.inr rfl) rfl
theorem ky_pcheck {i : Int32} {w : Value} (hw : w = .null ∨ w = .retAddr 4) (h0 : ¬ i < 0) (h1 : i < 113) : AMc yJ3_checkIndex_8e157 mJ_pcheck [.int i, .int 113, w] n R σ (some (.int i), n, R, σ) := by
  refine AMc_ofF (L := [some (.int i), some (.int 113), some w]) (by decide +kernel) rfl (fun _ => by rcases hw with rfl | rfl <;> rfl) (fun _ => by rcases hw with rfl | rfl <;> exact Nat.le_of_ble_eq_true rfl) (Nat.le_refl _) (fun K => ?_)
  refine aw_iload_0 dJ3_checkIndex_8e157_0 (aw_q (q := 1) rfl ?_)
  refine aw_if_lt (tgt := 9) dJ3_checkIndex_8e157_1 rfl (fun z => absurd z h0) (fun _ => (aw_q (q := 4) rfl ?_))
  refine aw_iload_0 dJ3_checkIndex_8e157_4 (aw_q (q := 5) rfl ?_)
  refine aw_iload_1 dJ3_checkIndex_8e157_5 (aw_q (q := 6) rfl ?_)
  refine aw_icmp_lt (tgt := 16) dJ3_checkIndex_8e157_6 rfl (fun _ => ?_) (fun z => absurd h1 z)
  refine aw_iload_0 dJ3_checkIndex_8e157_16 (aw_q (q := 17) rfl ?_)
  exact aw_iret dJ3_checkIndex_8e157_17 rfl rfl
theorem ky_check {i : Int32} (h0 : ¬ i < 0) (h1 : i < 113) : AMo yJ0_checkIndex_df160 mJ_check [.int i, .int 113] n R σ (none, n, R, σ) := by
  refine AMo.ofF (L := [some (.int i), some (.int 113)]) (by decide +kernel) rfl (fun _ => rfl) (fun _ => Nat.le_of_ble_eq_true rfl) (Nat.le_refl _) (fun K hO => ?_)
  refine aw_iload_0 dJ0_checkIndex_df160_0 (aw_q (q := 1) rfl ?_)
  refine aw_iload_1 dJ0_checkIndex_df160_1 (aw_q (q := 2) rfl ?_)
  refine aw_gsi hO dJ0_checkIndex_df160_2 (wTi 284 rfl rfl) (fun w hw => aw_q (q := 5) rfl ?_)
  refine aw_callS (av := [.int i, .int 113, w]) (rest := []) dJ0_checkIndex_df160_5 ⟨LS4 (wTi 286 rfl rfl) (wTi 287 rfl rfl) (wTi 32 rfl rfl) (wTi 288 rfl rfl), by decide, by decide, pdz_a⟩ (ky_pcheck hw h0 h1) (Nat.le_of_ble_eq_true rfl) (Nat.le_of_ble_eq_true rfl) (Nat.le_refl _) (Nat.le_refl _) (Nat.le_of_ble_eq_true rfl) rfl (aw_q (q := 8) rfl ?_)
  refine aw_pop rfl dJ0_checkIndex_df160_8 (aw_q (q := 9) rfl ?_)
  exact aw_vret dJ0_checkIndex_df160_9 rfl rfl
theorem fB_c : ∀ k, k < 113 → (((firstB.getD k 0) &&& 255).toUInt32 % 65536).toInt32 = firstB.getD k 0 ∧ ((firstB.getD k 0).toUInt32 % 65536).toInt32 = firstB.getD k 0 := by decide +kernel
theorem nar_c {x : Int32} (h : (x.toUInt32 % 65536).toInt32 = x) : narrow .char (.int x) = .int x := by
  show Value.int _ = Value.int _
  exact congrArg Value.int h
theorem ky_charAtL {i : Int32} (h0 : ¬ i < 0) (h1 : i < 113) (hi : inb i 113 = true) : AMo yJ1_charAt_3b067 mJ_charAtL [.retAddr 3, .int i] n R σ (some (.int (firstB.getD i.toNatClampNeg 0)), n, R, σ) := by
  have hb := fB_c _ (inb_lt hi)
  refine AMo.ofF (L := [some (.retAddr 3), some (.int i)]) (by decide +kernel) rfl (fun _ => rfl) (fun _ => Nat.le_of_ble_eq_true rfl) (Nat.le_refl _) (fun K hO => ?_)
  refine aw_iload_1 dJ1_charAt_3b067_0 (aw_q (q := 1) rfl ?_)
  refine aw_xload_0 dJ1_charAt_3b067_1 (aw_q (q := 2) rfl ?_)
  refine aw_blen dJ1_charAt_3b067_2 (aw_q (q := 3) rfl ?_)
  refine aw_callSO (av := [.int i, .int 113]) (rest := []) dJ1_charAt_3b067_3 ⟨LS4 (wTi 281 rfl rfl) (wTi 282 rfl rfl) (wTi 30 rfl rfl) (wTi 283 rfl rfl), by decide, by decide, pdz_b⟩ hO (ky_check h0 h1) (Nat.le_of_ble_eq_true rfl) (Nat.le_of_ble_eq_true rfl) (Nat.le_refl _) (Nat.le_refl _) (Nat.le_of_ble_eq_true rfl) rfl (aw_q (q := 6) rfl ?_)
  refine aw_xload_0 dJ1_charAt_3b067_6 (aw_q (q := 7) rfl ?_)
  refine aw_iload_1 dJ1_charAt_3b067_7 (aw_q (q := 8) rfl ?_)
  refine aw_bld dJ1_charAt_3b067_8 hi (aw_q (q := 9) rfl ?_)
  refine aw_sipush (v := 255) (by decide) dJ1_charAt_3b067_9 (aw_q (q := 12) rfl ?_)
  refine aw_iand dJ1_charAt_3b067_12 (aw_q (q := 13) rfl ?_)
  refine aw_i2c hb.1 dJ1_charAt_3b067_13 (aw_q (q := 14) rfl ?_)
  exact aw_nret dJ1_charAt_3b067_14 rfl (Or.inr (Or.inr rfl)) (nar_c hb.2) rfl
theorem ky_charAt {i : Int32} (h0 : ¬ i < 0) (h1 : i < 113) (hi : inb i 113 = true) : AMo yJ0_charAt_5068e mJ_charAt [.retAddr 2, .int i] n R σ (some (.int (firstB.getD i.toNatClampNeg 0)), n, R, σ) := by
  have hb := fB_c _ (inb_lt hi)
  refine AMo.ofF (L := [some (.retAddr 2), some (.int i)]) (by decide +kernel) rfl (fun _ => rfl) (fun _ => Nat.le_of_ble_eq_true rfl) (Nat.le_refl _) (fun K hO => ?_)
  refine aw_xload_0 dJ0_charAt_5068e_0 (aw_q (q := 1) rfl ?_)
  refine aw_callX (av := []) (rest := []) dJ0_charAt_5068e_1 rfl ⟨LV5 (wTi 274 rfl rfl) (wTi 275 rfl rfl) (wTi 276 rfl rfl) (wTi 30 rfl rfl) (wTi 277 rfl rfl), by decide, by decide, by decide +kernel⟩ ky_isLatin1 (Nat.le_of_ble_eq_true rfl) (Nat.le_of_ble_eq_true rfl) (Nat.le_refl _) (Nat.le_refl _) (Nat.le_of_ble_eq_true rfl) rfl (aw_q (q := 4) rfl ?_)
  refine aw_if_eq (tgt := 16) dJ0_charAt_5068e_4 rfl (fun z => absurd z (by decide)) (fun _ => (aw_q (q := 7) rfl ?_))
  refine aw_xload_0 dJ0_charAt_5068e_7 (aw_q (q := 8) rfl ?_)
  refine aw_gval dJ0_charAt_5068e_8 (wTi 807 rfl rfl) (aw_q (q := 11) rfl ?_)
  refine aw_iload_1 dJ0_charAt_5068e_11 (aw_q (q := 12) rfl ?_)
  refine aw_callSO (av := [.retAddr 3, .int i]) (rest := []) dJ0_charAt_5068e_12 ⟨LS4 (wTi 278 rfl rfl) (wTi 279 rfl rfl) (wTi 31 rfl rfl) (wTi 280 rfl rfl), by decide, by decide, pdz_c⟩ hO (ky_charAtL h0 h1 hi) (Nat.le_of_ble_eq_true rfl) (Nat.le_of_ble_eq_true rfl) (Nat.le_refl _) (Nat.le_refl _) (Nat.le_of_ble_eq_true rfl) rfl (aw_q (q := 15) rfl ?_)
  exact aw_nret dJ0_charAt_5068e_15 rfl (Or.inr (Or.inr rfl)) (nar_c hb.2) rfl
end STR
