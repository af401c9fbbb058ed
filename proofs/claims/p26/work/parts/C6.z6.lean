/-! the two constructors' ends: the first text read; the model told of it -/
def Sl : Nat → Sg
  | 0 => S5
  | i + 1 => up (up (Sl i) 5 i (firstB.getD i 0)) 4 3 (nI (i + 1))
theorem Sl_43 : ∀ i, Sl i 4 3 = nI i
  | 0 => rfl
  | _ + 1 => up_s
theorem j_add {i : Nat} (h : i < 113) : J_X5_add (firstB.getD (nI i).toNatClampNeg 0) (Sl i) = some (1, Sl (i + 1)) := by
  unfold J_X5_add
  rw [Sl_43, nI_clamp (by omega), if_neg (nI_nlt0 (by omega)), if_pos (show nI i < (200 : Int32) from (nI_ltI (b := 200) (by omega) (by omega)).mpr (by omega)), if_pos ((inb_nI (by omega)).mpr (by omega)), up_na (show (4 : Nat) ≠ 5 by decide), Sl_43, li_1, nI_add]
  rfl
section CT7
variable {K : KT} {r : Int32} {σb : Sg}
set_option maxRecDepth 100000
set_option maxHeartbeats 4000000
theorem kw_loop (hO : KO K) (e : J_X7_begin (Sl 113) = some (r, σb)) : ∀ (k i : Nat), i + k = 113 → AW K mX7_init (none, 141, R0, up σb 4 3 0) 124 [some (.ref 0), some (.int (nI i))] [] 141 R0 (Sl i)
  | 0, i, h => by
    have hi : i = 113 := by omega
    subst hi
    refine aw_iload_1 dX7_init_124 (aw_q (q := 125) rfl ?_)
    refine aw_ldcS dX7_init_125 rfl (aw_q (q := 127) rfl ?_)
    refine aw_callX (av := []) (rest := [.int (nI 113)]) dX7_init_127 rfl ⟨LV5 (wTi 260 rfl rfl) (wTi 261 rfl rfl) (wTi 262 rfl rfl) (wTi 30 rfl rfl) (wTi 263 rfl rfl), by decide, by decide, by decide +kernel⟩ ky_length (Nat.le_of_ble_eq_true rfl) (Nat.le_of_ble_eq_true rfl) (Nat.le_refl _) (Nat.le_refl _) (Nat.le_of_ble_eq_true rfl) rfl (aw_q (q := 130) rfl ?_)
    refine aw_icmp_ge (tgt := 153) dX7_init_130 rfl (fun _ => ?_) (fun z => absurd (by decide) z)
    refine aw_aload_0 dX7_init_153 (aw_q (q := 154) rfl ?_)
    refine aw_callV (av := []) (rest := []) dX7_init_154 lk7_85 (C_X7_begin (Nat.le_refl _) _ _ _ e) (Nat.le_of_ble_eq_true rfl) (Nat.le_of_ble_eq_true rfl) (by decide) (show (sh 0).1 = 7 by rw [s_0]) (by decide) (Nat.le_refl _) (Nat.le_refl _) (Nat.le_of_ble_eq_true rfl) rfl (aw_q (q := 157) rfl ?_)
    refine aw_pop rfl dX7_init_157 (aw_q (q := 158) rfl ?_)
    refine aw_aload_0 dX7_init_158 (aw_q (q := 159) rfl ?_)
    refine aw_getR (d := 4) dX7_init_159 fl7_19 (by decide) (show (sh 0).1 = 7 by rw [s_0]) rfl r_0_1 (aw_q (q := 162) rfl ?_)
    refine aw_iconst (v := 0) (by decide) dX7_init_162 (aw_q (q := 163) rfl ?_)
    refine aw_putI dX7_init_163 fl7_89 (by decide) (show (sh 4).1 = 5 by rw [s_4]) rfl (aw_q (q := 166) rfl ?_)
    exact aw_vret dX7_init_166 rfl rfl
  | k + 1, i, h => by
    have hlt : nI i < (113 : Int32) := (nI_ltI (b := 113) (by omega) (by omega)).mpr (by omega)
    refine aw_iload_1 dX7_init_124 (aw_q (q := 125) rfl ?_)
    refine aw_ldcS dX7_init_125 rfl (aw_q (q := 127) rfl ?_)
    refine aw_callX (av := []) (rest := [.int (nI i)]) dX7_init_127 rfl ⟨LV5 (wTi 260 rfl rfl) (wTi 261 rfl rfl) (wTi 262 rfl rfl) (wTi 30 rfl rfl) (wTi 263 rfl rfl), by decide, by decide, by decide +kernel⟩ ky_length (Nat.le_of_ble_eq_true rfl) (Nat.le_of_ble_eq_true rfl) (Nat.le_refl _) (Nat.le_refl _) (Nat.le_of_ble_eq_true rfl) rfl (aw_q (q := 130) rfl ?_)
    refine aw_icmp_ge (tgt := 153) dX7_init_130 rfl (fun z => absurd z (Int32.not_le.mpr hlt)) (fun _ => (aw_q (q := 133) rfl ?_))
    refine aw_aload_0 dX7_init_133 (aw_q (q := 134) rfl ?_)
    refine aw_getR (d := 4) dX7_init_134 fl7_19 (by decide) (show (sh 0).1 = 7 by rw [s_0]) rfl r_0_1 (aw_q (q := 137) rfl ?_)
    refine aw_ldcS dX7_init_137 rfl (aw_q (q := 139) rfl ?_)
    refine aw_iload_1 dX7_init_139 (aw_q (q := 140) rfl ?_)
    refine aw_callXO (av := [.int (nI i)]) (rest := [.ref 4]) dX7_init_140 rfl ⟨LV5 (wTi 270 rfl rfl) (wTi 271 rfl rfl) (wTi 272 rfl rfl) (wTi 30 rfl rfl) (wTi 273 rfl rfl), by decide, by decide, pdz_d⟩ hO (ky_charAt (nI_nlt0 (by omega)) hlt ((inb_nI (by omega)).mpr (by omega))) (Nat.le_of_ble_eq_true rfl) (Nat.le_of_ble_eq_true rfl) (Nat.le_refl _) (Nat.le_refl _) (Nat.le_of_ble_eq_true rfl) rfl (aw_q (q := 143) rfl ?_)
    refine aw_callV (av := [.int (firstB.getD (nI i).toNatClampNeg 0)]) (rest := []) dX7_init_143 lk7_81 (C_X5_add (Nat.le_refl _) _ _ _ _ (j_add (by omega))) (Nat.le_of_ble_eq_true rfl) (Nat.le_of_ble_eq_true rfl) (by decide) (show (sh 4).1 = 5 by rw [s_4]) (by decide) (Nat.le_refl _) (Nat.le_refl _) (Nat.le_of_ble_eq_true rfl) rfl (aw_q (q := 146) rfl ?_)
    refine aw_pop rfl dX7_init_146 (aw_q (q := 147) rfl ?_)
    refine aw_iinc_1 (v := nI (i + 1)) dX7_init_147 (by decide) rfl (nI_add i 1) (aw_q (q := 150) rfl ?_)
    refine aw_goto (tgt := 124) dX7_init_150 rfl ?_
    exact kw_loop hO e k (i + 1) (by omega)
theorem kx_7 (e : J_X7_begin (Sl 113) = some (r, σb)) : AMo yX7_init mX7_init [.ref 0] 1 (Rt 0) S0 (none, 141, R0, up σb 4 3 0) := by
  refine AMo.ofI (L := [some (.ref 0), none]) (by decide) rfl rfl (fun _ => rfl) (fun _ => Nat.le_of_ble_eq_true rfl) (Nat.le_of_ble_eq_true rfl) (fun K hI hO => ?_)
  refine kw_0 K hI hO (Nat.le_refl _) ?_
  refine aw_iconst (v := 0) (by decide) dX7_init_122 (aw_q (q := 123) rfl ?_)
  refine aw_istore_1 dX7_init_123 (by decide) rfl (aw_q (q := 124) rfl ?_)
  exact aw_R (fun a j h => rt168 a j (Nat.lt_trans h (by decide))) (kw_loop hO e 113 0 rfl)
end CT7
