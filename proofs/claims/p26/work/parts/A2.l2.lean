def J_L_strays_b204 (f : Nat)  (y182 : Int32 → Int32 → Int32 → Sg → Option (Int32 × Nat × Sg)) : Nat → Int32 → Int32 → Int32 → Int32 → Int32 → Int32 → Sg → Option (Int32 × Nat × Sg)
  | 0, _, _, _, _, _, _, _ => none
  | k + 1, x2, x3, x5, x6, x7, x8, σ =>
    (if (σ 141 0) ≤ x8 then (if x6 = x7 then (if x6 < x3 then (some ((0 : Int32), (f + 1), σ)) else (if x5 = 0 then (if x6 = (1 : Int32) then (y182 x2 x6 (x5 + (1)) σ) else (some ((0 : Int32), (f + 1), σ))) else (y182 x2 x6 (x5 + (1)) σ))) else (some ((0 : Int32), (f + 1), σ))) else (if inb x8 (dl σ f) = true then (if (σ f x8.toNatClampNeg) < 0 then (J_L_strays_b204 f  y182 k x2 x3 x5 x6 (x7 + (0 : Int32)) (x8 + (1)) σ) else (if inb x8 (dl σ f) = true then (if x5 < (σ f x8.toNatClampNeg) then (J_L_strays_b204 f  y182 k x2 x3 x5 x6 (x7 + (0 : Int32)) (x8 + (1)) σ) else (J_L_strays_b204 f  y182 k x2 x3 x5 x6 (x7 + (1 : Int32)) (x8 + (1)) σ)) else none)) else none))
set_option maxHeartbeats 4000000 in
theorem A_L_strays_b204 (K : KT)  (f : Nat) (hf : NT ≤ f)  (y182 : Int32 → Int32 → Int32 → Sg → Option (Int32 × Nat × Sg)) (hy182 : ∀ (x2 : Int32) (x3 : Int32) (x5 : Int32) (σ : Sg), AG K mL_strays (f + 1) tA (y182 x2 x3 x5 σ) 182 [some (.ref 0), some (.ref 141), some (.int x2), some (.int x3), some (.ref f), some (.int x5), none, none, none] [] σ) : ∀ (k : Nat) (x2 : Int32) (x3 : Int32) (x5 : Int32) (x6 : Int32) (x7 : Int32) (x8 : Int32) (σ : Sg), AG K mL_strays (f + 1) tA (J_L_strays_b204 f  y182 k x2 x3 x5 x6 x7 x8 σ) 204 [some (.ref 0), some (.ref 141), some (.int x2), some (.int x3), some (.ref f), some (.int x5), some (.int x6), some (.int x7), some (.int x8)] [] σ := by
  intro k
  induction k with
  | zero => intro x2 x3 x5 x6 x7 x8 σ; exact ag_none
  | succ k ih =>
    intro x2 x3 x5 x6 x7 x8 σ
    rw [J_L_strays_b204]
    refine ag_iload_8 (q := 206) dL_strays_204 rfl ?_
    refine ag_aload_1 (q := 207) dL_strays_206 rfl ?_
    refine ag_iconst (q := 208) (v := 0) dL_strays_207 rfl (by decide) ?_
    refine ag_ialdK (q := 209) (k := 0) dL_strays_208 rfl (Nat.lt_of_lt_of_le (by decide : 141 < NT) (Nat.le_succ_of_le hf)) s_141 (by decide) (by decide) ?_
    refine ag_icmp_ge (tgt := 246) (q := 212) dL_strays_209 rfl rfl ?_ ?_
    · refine ag_iload_6 (q := 248) dL_strays_246 rfl ?_
      refine ag_iload_7 (q := 250) dL_strays_248 rfl ?_
      refine ag_icmp_ne (tgt := 270) (q := 253) dL_strays_250 rfl rfl ?_ ?_
      · refine ag_iconst (q := 271) (v := 0) dL_strays_270 rfl (by decide) ?_
        exact ag_zretK dL_strays_271 rfl (by decide) rfl
      refine ag_iload_6 (q := 255) dL_strays_253 rfl ?_
      refine ag_iload_3 (q := 256) dL_strays_255 rfl ?_
      refine ag_icmp_lt (tgt := 270) (q := 259) dL_strays_256 rfl rfl ?_ ?_
      · refine ag_iconst (q := 271) (v := 0) dL_strays_270 rfl (by decide) ?_
        exact ag_zretK dL_strays_271 rfl (by decide) rfl
      refine ag_iload_5 (q := 261) dL_strays_259 rfl ?_
      refine ag_if_ne (tgt := 272) (q := 264) dL_strays_261 rfl rfl ?_ ?_
      · refine ag_iload_6 (q := 274) dL_strays_272 rfl ?_
        refine ag_istore_3 (q := 275) dL_strays_274 rfl (Nat.le_of_ble_eq_true rfl) rfl ?_
        refine ag_iinc_5 (q := 278) (d := (1)) dL_strays_275 rfl (Nat.le_of_ble_eq_true rfl) rfl (by decide) ?_
        refine ag_goto (q := 182) dL_strays_278 rfl ?_
        refine ag_kill_6 ?_
        refine ag_kill_7 ?_
        refine ag_kill_8 ?_
        exact hy182 x2 x6 (x5 + (1)) σ
      refine ag_iload_6 (q := 266) dL_strays_264 rfl ?_
      refine ag_iconst (q := 267) (v := 1) dL_strays_266 rfl (by decide) ?_
      refine ag_icmp_eq (tgt := 272) (q := 270) dL_strays_267 rfl rfl ?_ ?_
      · refine ag_iload_6 (q := 274) dL_strays_272 rfl ?_
        refine ag_istore_3 (q := 275) dL_strays_274 rfl (Nat.le_of_ble_eq_true rfl) rfl ?_
        refine ag_iinc_5 (q := 278) (d := (1)) dL_strays_275 rfl (Nat.le_of_ble_eq_true rfl) rfl (by decide) ?_
        refine ag_goto (q := 182) dL_strays_278 rfl ?_
        refine ag_kill_6 ?_
        refine ag_kill_7 ?_
        refine ag_kill_8 ?_
        exact hy182 x2 x6 (x5 + (1)) σ
      refine ag_iconst (q := 271) (v := 0) dL_strays_270 rfl (by decide) ?_
      exact ag_zretK dL_strays_271 rfl (by decide) rfl
    refine ag_iload_7 (q := 214) dL_strays_212 rfl ?_
    refine ag_aload_4 (q := 216) dL_strays_214 rfl ?_
    refine ag_iload_8 (q := 218) dL_strays_216 rfl ?_
    refine ag_ialdD (q := 219) dL_strays_218 rfl (Nat.lt_succ_self f) (sh_dyn hf) ?_
    refine ag_if_lt (tgt := 236) (q := 222) dL_strays_219 rfl rfl ?_ ?_
    · refine ag_iconst (q := 237) (v := 0) dL_strays_236 rfl (by decide) ?_
      refine ag_iadd (q := 238) dL_strays_237 rfl ?_
      refine ag_istore_7 (q := 240) dL_strays_238 rfl (Nat.le_of_ble_eq_true rfl) rfl ?_
      refine ag_iinc_8 (q := 243) (d := (1)) dL_strays_240 rfl (Nat.le_of_ble_eq_true rfl) rfl (by decide) ?_
      refine ag_goto (q := 204) dL_strays_243 rfl ?_
      exact ih x2 x3 x5 x6 (x7 + (0 : Int32)) (x8 + (1)) σ
    refine ag_aload_4 (q := 224) dL_strays_222 rfl ?_
    refine ag_iload_8 (q := 226) dL_strays_224 rfl ?_
    refine ag_ialdD (q := 227) dL_strays_226 rfl (Nat.lt_succ_self f) (sh_dyn hf) ?_
    refine ag_iload_5 (q := 229) dL_strays_227 rfl ?_
    refine ag_icmp_gt (tgt := 236) (q := 232) dL_strays_229 rfl rfl ?_ ?_
    · refine ag_iconst (q := 237) (v := 0) dL_strays_236 rfl (by decide) ?_
      refine ag_iadd (q := 238) dL_strays_237 rfl ?_
      refine ag_istore_7 (q := 240) dL_strays_238 rfl (Nat.le_of_ble_eq_true rfl) rfl ?_
      refine ag_iinc_8 (q := 243) (d := (1)) dL_strays_240 rfl (Nat.le_of_ble_eq_true rfl) rfl (by decide) ?_
      refine ag_goto (q := 204) dL_strays_243 rfl ?_
      exact ih x2 x3 x5 x6 (x7 + (0 : Int32)) (x8 + (1)) σ
    refine ag_iconst (q := 233) (v := 1) dL_strays_232 rfl (by decide) ?_
    refine ag_goto (q := 237) dL_strays_233 rfl ?_
    refine ag_iadd (q := 238) dL_strays_237 rfl ?_
    refine ag_istore_7 (q := 240) dL_strays_238 rfl (Nat.le_of_ble_eq_true rfl) rfl ?_
    refine ag_iinc_8 (q := 243) (d := (1)) dL_strays_240 rfl (Nat.le_of_ble_eq_true rfl) rfl (by decide) ?_
    refine ag_goto (q := 204) dL_strays_243 rfl ?_
    exact ih x2 x3 x5 x6 (x7 + (1 : Int32)) (x8 + (1)) σ
def J_L_strays_b182 (f : Nat)  : Nat → Int32 → Int32 → Int32 → Sg → Option (Int32 × Nat × Sg)
  | 0, _, _, _, _ => none
  | k + 1, x2, x3, x5, σ =>
    (if (7 : Int32) ≤ x5 then (some ((1 : Int32), (f + 1), σ)) else (bd2 (J_X7_stray x2 x5 σ) fun r193 s193 => (J_L_strays_b204 f  (fun x2 x3 x5 σ => J_L_strays_b182 f   k x2 x3 x5 σ) FU x2 x3 x5 r193 (0 : Int32) (0 : Int32) s193)))
set_option maxHeartbeats 4000000 in
theorem A_L_strays_b182 (K : KT)  (f : Nat) (hf : NT ≤ f)  : ∀ (k : Nat) (x2 : Int32) (x3 : Int32) (x5 : Int32) (σ : Sg), AG K mL_strays (f + 1) tA (J_L_strays_b182 f   k x2 x3 x5 σ) 182 [some (.ref 0), some (.ref 141), some (.int x2), some (.int x3), some (.ref f), some (.int x5), none, none, none] [] σ := by
  intro k
  induction k with
  | zero => intro x2 x3 x5 σ; exact ag_none
  | succ k ih =>
    intro x2 x3 x5 σ
    rw [J_L_strays_b182]
    refine ag_iload_5 (q := 184) dL_strays_182 rfl ?_
    refine ag_bipush (q := 186) (v := 7) dL_strays_184 rfl (by decide) ?_
    refine ag_icmp_ge (tgt := 281) (q := 189) dL_strays_186 rfl rfl ?_ ?_
    · refine ag_iconst (q := 282) (v := 1) dL_strays_281 rfl (by decide) ?_
      exact ag_zretK dL_strays_282 rfl (by decide) rfl
    refine ag_aload_0 (q := 190) dL_strays_189 rfl ?_
    refine ag_iload_2 (q := 191) dL_strays_190 rfl ?_
    refine ag_iload_5 (q := 193) dL_strays_191 rfl ?_
    refine ag_callV_mI (q := 196) (av := [.int _, .int _]) (rest := []) dL_strays_193 rfl lkL_67 (C_X7_stray (Nat.le_trans (by decide) (Nat.le_succ_of_le hf)) x2 x5 _) (by decide) (Nat.le_of_ble_eq_true rfl) (Nat.lt_of_lt_of_le (by decide : 0 < NT) (Nat.le_succ_of_le hf)) (congrArg Prod.fst s_0) (by decide) (fun _ => rfl) (Nat.le_of_ble_eq_true rfl) rfl (fun r193 s193 e193 => ?_)
    refine ag_istore_6 (q := 198) dL_strays_196 rfl (Nat.le_of_ble_eq_true rfl) rfl ?_
    refine ag_iconst (q := 199) (v := 0) dL_strays_198 rfl (by decide) ?_
    refine ag_istore_7 (q := 201) dL_strays_199 rfl (Nat.le_of_ble_eq_true rfl) rfl ?_
    refine ag_iconst (q := 202) (v := 0) dL_strays_201 rfl (by decide) ?_
    refine ag_istore_8 (q := 204) dL_strays_202 rfl (Nat.le_of_ble_eq_true rfl) rfl ?_
    exact A_L_strays_b204 K  f hf  (fun x2 x3 x5 σ => J_L_strays_b182 f   k x2 x3 x5 σ) (fun x2 x3 x5 σ => ih x2 x3 x5 σ) FU x2 x3 x5 r193 (0 : Int32) (0 : Int32) s193
def J_L_strays_b142 (f : Nat)  (y37 : Int32 → Int32 → Int32 → Sg → Option (Int32 × Nat × Sg)) (x2 : Int32) (x3 : Int32) (x5 : Int32) (σ : Sg) : Option (Int32 × Nat × Sg) :=
  (if inb x5 (dl σ f) = true then (if 0 ≤ (σ f x5.toNatClampNeg) then (if inb x5 (dl σ f) = true then (bd2 (J_X7_fewest x2 x5 (σ f x5.toNatClampNeg) σ) fun r163 s163 => (if r163 = (-4 : Int32) then (y37 x2 x3 (x5 + (1)) s163) else (some ((0 : Int32), (f + 1), s163)))) else none) else (bd2 (J_X7_fewest x2 x5 (0 : Int32) σ) fun r163 s163 => (if r163 = (-4 : Int32) then (y37 x2 x3 (x5 + (1)) s163) else (some ((0 : Int32), (f + 1), s163))))) else none)
set_option maxHeartbeats 4000000 in
theorem A_L_strays_b142 (K : KT)  (f : Nat) (hf : NT ≤ f)  (y37 : Int32 → Int32 → Int32 → Sg → Option (Int32 × Nat × Sg)) (hy37 : ∀ (x2 : Int32) (x3 : Int32) (x5 : Int32) (σ : Sg), AG K mL_strays (f + 1) tA (y37 x2 x3 x5 σ) 37 [some (.ref 0), some (.ref 141), some (.int x2), some (.int x3), some (.ref f), some (.int x5), none, none, none] [] σ) (x2 : Int32) (x3 : Int32) (x5 : Int32) (σ : Sg) : AG K mL_strays (f + 1) tA (J_L_strays_b142 f  y37 x2 x3 x5 σ) 142 [some (.ref 0), some (.ref 141), some (.int x2), some (.int x3), some (.ref f), some (.int x5), none, none, none] [] σ := by
  unfold J_L_strays_b142
  refine ag_aload_0 (q := 143) dL_strays_142 rfl ?_
  refine ag_iload_2 (q := 144) dL_strays_143 rfl ?_
  refine ag_iload_5 (q := 146) dL_strays_144 rfl ?_
  refine ag_aload_4 (q := 148) dL_strays_146 rfl ?_
  refine ag_iload_5 (q := 150) dL_strays_148 rfl ?_
  refine ag_ialdD (q := 151) dL_strays_150 rfl (Nat.lt_succ_self f) (sh_dyn hf) ?_
  refine ag_if_ge (tgt := 158) (q := 154) dL_strays_151 rfl rfl ?_ ?_
  · refine ag_aload_4 (q := 160) dL_strays_158 rfl ?_
    refine ag_iload_5 (q := 162) dL_strays_160 rfl ?_
    refine ag_ialdD (q := 163) dL_strays_162 rfl (Nat.lt_succ_self f) (sh_dyn hf) ?_
    refine ag_callV_mI (q := 166) (av := [.int _, .int _, .int _]) (rest := []) dL_strays_163 rfl lkL_70 (C_X7_fewest (Nat.le_trans (by decide) (Nat.le_succ_of_le hf)) x2 x5 (σ f x5.toNatClampNeg) _) (by decide) (Nat.le_of_ble_eq_true rfl) (Nat.lt_of_lt_of_le (by decide : 0 < NT) (Nat.le_succ_of_le hf)) (congrArg Prod.fst s_0) (by decide) (fun _ => rfl) (Nat.le_of_ble_eq_true rfl) rfl (fun r163 s163 e163 => ?_)
    refine ag_bipush (q := 168) (v := -4) dL_strays_166 rfl (by decide) ?_
    refine ag_icmp_eq (tgt := 173) (q := 171) dL_strays_168 rfl rfl ?_ ?_
    · refine ag_iinc_5 (q := 176) (d := (1)) dL_strays_173 rfl (Nat.le_of_ble_eq_true rfl) rfl (by decide) ?_
      refine ag_goto (q := 37) dL_strays_176 rfl ?_
      exact hy37 x2 x3 (x5 + (1)) s163
    refine ag_iconst (q := 172) (v := 0) dL_strays_171 rfl (by decide) ?_
    exact ag_zretK dL_strays_172 rfl (by decide) rfl
  refine ag_iconst (q := 155) (v := 0) dL_strays_154 rfl (by decide) ?_
  refine ag_goto (q := 163) dL_strays_155 rfl ?_
  refine ag_callV_mI (q := 166) (av := [.int _, .int _, .int _]) (rest := []) dL_strays_163 rfl lkL_70 (C_X7_fewest (Nat.le_trans (by decide) (Nat.le_succ_of_le hf)) x2 x5 (0 : Int32) _) (by decide) (Nat.le_of_ble_eq_true rfl) (Nat.lt_of_lt_of_le (by decide : 0 < NT) (Nat.le_succ_of_le hf)) (congrArg Prod.fst s_0) (by decide) (fun _ => rfl) (Nat.le_of_ble_eq_true rfl) rfl (fun r163 s163 e163 => ?_)
  refine ag_bipush (q := 168) (v := -4) dL_strays_166 rfl (by decide) ?_
  refine ag_icmp_eq (tgt := 173) (q := 171) dL_strays_168 rfl rfl ?_ ?_
  · refine ag_iinc_5 (q := 176) (d := (1)) dL_strays_173 rfl (Nat.le_of_ble_eq_true rfl) rfl (by decide) ?_
    refine ag_goto (q := 37) dL_strays_176 rfl ?_
    exact hy37 x2 x3 (x5 + (1)) s163
  refine ag_iconst (q := 172) (v := 0) dL_strays_171 rfl (by decide) ?_
  exact ag_zretK dL_strays_172 rfl (by decide) rfl
def J_L_strays_b107 (f : Nat)  (y37 : Int32 → Int32 → Int32 → Sg → Option (Int32 × Nat × Sg)) (x2 : Int32) (x3 : Int32) (x5 : Int32) (σ : Sg) : Option (Int32 × Nat × Sg) :=
  (if inb x5 (dl σ f) = true then (if (σ f x5.toNatClampNeg) ≤ 0 then (J_L_strays_b142 f  y37 x2 x3 x5 σ) else (bd1 (J_X7_square x5 (1 : Int32) σ) fun r119 => (if 0 ≤ r119 then (some ((0 : Int32), (f + 1), σ)) else (if inb x5 (dl σ f) = true then (bd2 (J_X7_fewest x2 x5 ((σ f x5.toNatClampNeg) - (1 : Int32)) σ) fun r136 s136 => (if r136 < 0 then (some ((0 : Int32), (f + 1), s136)) else (J_L_strays_b142 f  y37 x2 x3 x5 s136))) else none)))) else none)
set_option maxHeartbeats 4000000 in
theorem A_L_strays_b107 (K : KT)  (f : Nat) (hf : NT ≤ f)  (y37 : Int32 → Int32 → Int32 → Sg → Option (Int32 × Nat × Sg)) (hy37 : ∀ (x2 : Int32) (x3 : Int32) (x5 : Int32) (σ : Sg), AG K mL_strays (f + 1) tA (y37 x2 x3 x5 σ) 37 [some (.ref 0), some (.ref 141), some (.int x2), some (.int x3), some (.ref f), some (.int x5), none, none, none] [] σ) (x2 : Int32) (x3 : Int32) (x5 : Int32) (σ : Sg) : AG K mL_strays (f + 1) tA (J_L_strays_b107 f  y37 x2 x3 x5 σ) 107 [some (.ref 0), some (.ref 141), some (.int x2), some (.int x3), some (.ref f), some (.int x5), none, none, none] [] σ := by
  unfold J_L_strays_b107
  refine ag_aload_4 (q := 109) dL_strays_107 rfl ?_
  refine ag_iload_5 (q := 111) dL_strays_109 rfl ?_
  refine ag_ialdD (q := 112) dL_strays_111 rfl (Nat.lt_succ_self f) (sh_dyn hf) ?_
  refine ag_if_le (tgt := 142) (q := 115) dL_strays_112 rfl rfl ?_ ?_
  · exact A_L_strays_b142 K  f hf  y37 hy37 x2 x3 x5 σ
  refine ag_aload_0 (q := 116) dL_strays_115 rfl ?_
  refine ag_iload_5 (q := 118) dL_strays_116 rfl ?_
  refine ag_iconst (q := 119) (v := 1) dL_strays_118 rfl (by decide) ?_
  refine ag_callV_pI (q := 122) (av := [.int _, .int _]) (rest := []) dL_strays_119 rfl lkL_46 (C_X7_square (Nat.le_trans (by decide) (Nat.le_succ_of_le hf)) x5 (1 : Int32) _) (by decide) (Nat.le_of_ble_eq_true rfl) (Nat.lt_of_lt_of_le (by decide : 0 < NT) (Nat.le_succ_of_le hf)) (congrArg Prod.fst s_0) (by decide) (fun _ => rfl) (Nat.le_of_ble_eq_true rfl) rfl (fun r119 e119 => ?_)
  refine ag_if_ge (tgt := 171) (q := 125) dL_strays_122 rfl rfl ?_ ?_
  · refine ag_iconst (q := 172) (v := 0) dL_strays_171 rfl (by decide) ?_
    exact ag_zretK dL_strays_172 rfl (by decide) rfl
  refine ag_aload_0 (q := 126) dL_strays_125 rfl ?_
  refine ag_iload_2 (q := 127) dL_strays_126 rfl ?_
  refine ag_iload_5 (q := 129) dL_strays_127 rfl ?_
  refine ag_aload_4 (q := 131) dL_strays_129 rfl ?_
  refine ag_iload_5 (q := 133) dL_strays_131 rfl ?_
  refine ag_ialdD (q := 134) dL_strays_133 rfl (Nat.lt_succ_self f) (sh_dyn hf) ?_
  refine ag_iconst (q := 135) (v := 1) dL_strays_134 rfl (by decide) ?_
  refine ag_isub (q := 136) dL_strays_135 rfl ?_
  refine ag_callV_mI (q := 139) (av := [.int _, .int _, .int _]) (rest := []) dL_strays_136 rfl lkL_70 (C_X7_fewest (Nat.le_trans (by decide) (Nat.le_succ_of_le hf)) x2 x5 ((σ f x5.toNatClampNeg) - (1 : Int32)) _) (by decide) (Nat.le_of_ble_eq_true rfl) (Nat.lt_of_lt_of_le (by decide : 0 < NT) (Nat.le_succ_of_le hf)) (congrArg Prod.fst s_0) (by decide) (fun _ => rfl) (Nat.le_of_ble_eq_true rfl) rfl (fun r136 s136 e136 => ?_)
  refine ag_if_lt (tgt := 171) (q := 142) dL_strays_139 rfl rfl ?_ ?_
  · refine ag_iconst (q := 172) (v := 0) dL_strays_171 rfl (by decide) ?_
    exact ag_zretK dL_strays_172 rfl (by decide) rfl
  exact A_L_strays_b142 K  f hf  y37 hy37 x2 x3 x5 s136
def J_L_strays_b37 (f : Nat)  : Nat → Int32 → Int32 → Int32 → Sg → Option (Int32 × Nat × Sg)
  | 0, _, _, _, _ => none
  | k + 1, x2, x3, x5, σ =>
    (if (σ 141 0) ≤ x5 then (J_L_strays_b182 f   FU x2 x3 (0 : Int32) σ) else (bd2 (J_X7_fewest x2 x5 (-1 : Int32) σ) fun r54 s54 => (if inb x5 (dl s54 f) = true then (if inb x5 (dl (up s54 f x5.toNatClampNeg r54) f) = true then (if (12 : Int32) < ((up s54 f x5.toNatClampNeg r54) f x5.toNatClampNeg) then (some ((0 : Int32), (f + 1), (up s54 f x5.toNatClampNeg r54))) else (if inb x5 (dl (up s54 f x5.toNatClampNeg r54) f) = true then (if ((up s54 f x5.toNatClampNeg r54) f x5.toNatClampNeg) = 0 then (bd1 (J_X7_beast x2 (2 : Int32) (up s54 f x5.toNatClampNeg r54)) fun r79 => (if r79 = x5 then (if inb x5 (dl (up s54 f x5.toNatClampNeg r54) f) = true then (if ((up s54 f x5.toNatClampNeg r54) f x5.toNatClampNeg) < 0 then (J_L_strays_b107 f  (fun x2 x3 x5 σ => J_L_strays_b37 f   k x2 x3 x5 σ) x2 x3 x5 (up s54 f x5.toNatClampNeg r54)) else (bd1 (J_X7_square x5 (0 : Int32) (up s54 f x5.toNatClampNeg r54)) fun r99 => (if r99 = (9 : Int32) then (some ((0 : Int32), (f + 1), (up s54 f x5.toNatClampNeg r54))) else (J_L_strays_b107 f  (fun x2 x3 x5 σ => J_L_strays_b37 f   k x2 x3 x5 σ) x2 x3 x5 (up s54 f x5.toNatClampNeg r54))))) else none) else (some ((0 : Int32), (f + 1), (up s54 f x5.toNatClampNeg r54))))) else (if inb x5 (dl (up s54 f x5.toNatClampNeg r54) f) = true then (if ((up s54 f x5.toNatClampNeg r54) f x5.toNatClampNeg) < 0 then (J_L_strays_b107 f  (fun x2 x3 x5 σ => J_L_strays_b37 f   k x2 x3 x5 σ) x2 x3 x5 (up s54 f x5.toNatClampNeg r54)) else (bd1 (J_X7_square x5 (0 : Int32) (up s54 f x5.toNatClampNeg r54)) fun r99 => (if r99 = (9 : Int32) then (some ((0 : Int32), (f + 1), (up s54 f x5.toNatClampNeg r54))) else (J_L_strays_b107 f  (fun x2 x3 x5 σ => J_L_strays_b37 f   k x2 x3 x5 σ) x2 x3 x5 (up s54 f x5.toNatClampNeg r54))))) else none)) else none)) else none) else none)))
set_option maxHeartbeats 4000000 in
theorem A_L_strays_b37 (K : KT)  (f : Nat) (hf : NT ≤ f)  : ∀ (k : Nat) (x2 : Int32) (x3 : Int32) (x5 : Int32) (σ : Sg), AG K mL_strays (f + 1) tA (J_L_strays_b37 f   k x2 x3 x5 σ) 37 [some (.ref 0), some (.ref 141), some (.int x2), some (.int x3), some (.ref f), some (.int x5), none, none, none] [] σ := by
  intro k
  induction k with
  | zero => intro x2 x3 x5 σ; exact ag_none
  | succ k ih =>
    intro x2 x3 x5 σ
    rw [J_L_strays_b37]
    refine ag_iload_5 (q := 39) dL_strays_37 rfl ?_
    refine ag_aload_1 (q := 40) dL_strays_39 rfl ?_
    refine ag_iconst (q := 41) (v := 0) dL_strays_40 rfl (by decide) ?_
    refine ag_ialdK (q := 42) (k := 0) dL_strays_41 rfl (Nat.lt_of_lt_of_le (by decide : 141 < NT) (Nat.le_succ_of_le hf)) s_141 (by decide) (by decide) ?_
    refine ag_icmp_ge (tgt := 179) (q := 45) dL_strays_42 rfl rfl ?_ ?_
    · refine ag_iconst (q := 180) (v := 0) dL_strays_179 rfl (by decide) ?_
      refine ag_istore_5 (q := 182) dL_strays_180 rfl (Nat.le_of_ble_eq_true rfl) rfl ?_
      exact A_L_strays_b182 K  f hf   FU x2 x3 (0 : Int32) σ
    refine ag_aload_4 (q := 47) dL_strays_45 rfl ?_
    refine ag_iload_5 (q := 49) dL_strays_47 rfl ?_
    refine ag_aload_0 (q := 50) dL_strays_49 rfl ?_
    refine ag_iload_2 (q := 51) dL_strays_50 rfl ?_
    refine ag_iload_5 (q := 53) dL_strays_51 rfl ?_
    refine ag_iconst (q := 54) (v := -1) dL_strays_53 rfl (by decide) ?_
    refine ag_callV_mI (q := 57) (av := [.int _, .int _, .int _]) (rest := [.int _, .ref _]) dL_strays_54 rfl lkL_70 (C_X7_fewest (Nat.le_trans (by decide) (Nat.le_succ_of_le hf)) x2 x5 (-1 : Int32) _) (by decide) (Nat.le_of_ble_eq_true rfl) (Nat.lt_of_lt_of_le (by decide : 0 < NT) (Nat.le_succ_of_le hf)) (congrArg Prod.fst s_0) (by decide) (fun _ => rfl) (Nat.le_of_ble_eq_true rfl) rfl (fun r54 s54 e54 => ?_)
    refine ag_iastD (q := 58) dL_strays_57 rfl (Nat.lt_succ_self f) (sh_dyn hf) ?_
    refine ag_aload_4 (q := 60) dL_strays_58 rfl ?_
    refine ag_iload_5 (q := 62) dL_strays_60 rfl ?_
    refine ag_ialdD (q := 63) dL_strays_62 rfl (Nat.lt_succ_self f) (sh_dyn hf) ?_
    refine ag_bipush (q := 65) (v := 12) dL_strays_63 rfl (by decide) ?_
    refine ag_icmp_gt (tgt := 171) (q := 68) dL_strays_65 rfl rfl ?_ ?_
    · refine ag_iconst (q := 172) (v := 0) dL_strays_171 rfl (by decide) ?_
      exact ag_zretK dL_strays_172 rfl (by decide) rfl
    refine ag_aload_4 (q := 70) dL_strays_68 rfl ?_
    refine ag_iload_5 (q := 72) dL_strays_70 rfl ?_
    refine ag_ialdD (q := 73) dL_strays_72 rfl (Nat.lt_succ_self f) (sh_dyn hf) ?_
    refine ag_if_ne (tgt := 87) (q := 76) dL_strays_73 rfl rfl ?_ ?_
    · refine ag_aload_4 (q := 89) dL_strays_87 rfl ?_
      refine ag_iload_5 (q := 91) dL_strays_89 rfl ?_
      refine ag_ialdD (q := 92) dL_strays_91 rfl (Nat.lt_succ_self f) (sh_dyn hf) ?_
      refine ag_if_lt (tgt := 107) (q := 95) dL_strays_92 rfl rfl ?_ ?_
      · exact A_L_strays_b107 K  f hf  (fun x2 x3 x5 σ => J_L_strays_b37 f   k x2 x3 x5 σ) (fun x2 x3 x5 σ => ih x2 x3 x5 σ) x2 x3 x5 (up s54 f x5.toNatClampNeg r54)
      refine ag_aload_0 (q := 96) dL_strays_95 rfl ?_
      refine ag_iload_5 (q := 98) dL_strays_96 rfl ?_
      refine ag_iconst (q := 99) (v := 0) dL_strays_98 rfl (by decide) ?_
      refine ag_callV_pI (q := 102) (av := [.int _, .int _]) (rest := []) dL_strays_99 rfl lkL_46 (C_X7_square (Nat.le_trans (by decide) (Nat.le_succ_of_le hf)) x5 (0 : Int32) _) (by decide) (Nat.le_of_ble_eq_true rfl) (Nat.lt_of_lt_of_le (by decide : 0 < NT) (Nat.le_succ_of_le hf)) (congrArg Prod.fst s_0) (by decide) (fun _ => rfl) (Nat.le_of_ble_eq_true rfl) rfl (fun r99 e99 => ?_)
      refine ag_bipush (q := 104) (v := 9) dL_strays_102 rfl (by decide) ?_
      refine ag_icmp_eq (tgt := 171) (q := 107) dL_strays_104 rfl rfl ?_ ?_
      · refine ag_iconst (q := 172) (v := 0) dL_strays_171 rfl (by decide) ?_
        exact ag_zretK dL_strays_172 rfl (by decide) rfl
      exact A_L_strays_b107 K  f hf  (fun x2 x3 x5 σ => J_L_strays_b37 f   k x2 x3 x5 σ) (fun x2 x3 x5 σ => ih x2 x3 x5 σ) x2 x3 x5 (up s54 f x5.toNatClampNeg r54)
    refine ag_aload_0 (q := 77) dL_strays_76 rfl ?_
    refine ag_iload_2 (q := 78) dL_strays_77 rfl ?_
    refine ag_iconst (q := 79) (v := 2) dL_strays_78 rfl (by decide) ?_
    refine ag_callV_pI (q := 82) (av := [.int _, .int _]) (rest := []) dL_strays_79 rfl lkL_49 (C_X7_beast (Nat.le_trans (by decide) (Nat.le_succ_of_le hf)) x2 (2 : Int32) _) (by decide) (Nat.le_of_ble_eq_true rfl) (Nat.lt_of_lt_of_le (by decide : 0 < NT) (Nat.le_succ_of_le hf)) (congrArg Prod.fst s_0) (by decide) (fun _ => rfl) (Nat.le_of_ble_eq_true rfl) rfl (fun r79 e79 => ?_)
    refine ag_iload_5 (q := 84) dL_strays_82 rfl ?_
    refine ag_icmp_ne (tgt := 171) (q := 87) dL_strays_84 rfl rfl ?_ ?_
    · refine ag_iconst (q := 172) (v := 0) dL_strays_171 rfl (by decide) ?_
      exact ag_zretK dL_strays_172 rfl (by decide) rfl
    refine ag_aload_4 (q := 89) dL_strays_87 rfl ?_
    refine ag_iload_5 (q := 91) dL_strays_89 rfl ?_
    refine ag_ialdD (q := 92) dL_strays_91 rfl (Nat.lt_succ_self f) (sh_dyn hf) ?_
    refine ag_if_lt (tgt := 107) (q := 95) dL_strays_92 rfl rfl ?_ ?_
    · exact A_L_strays_b107 K  f hf  (fun x2 x3 x5 σ => J_L_strays_b37 f   k x2 x3 x5 σ) (fun x2 x3 x5 σ => ih x2 x3 x5 σ) x2 x3 x5 (up s54 f x5.toNatClampNeg r54)
    refine ag_aload_0 (q := 96) dL_strays_95 rfl ?_
    refine ag_iload_5 (q := 98) dL_strays_96 rfl ?_
    refine ag_iconst (q := 99) (v := 0) dL_strays_98 rfl (by decide) ?_
    refine ag_callV_pI (q := 102) (av := [.int _, .int _]) (rest := []) dL_strays_99 rfl lkL_46 (C_X7_square (Nat.le_trans (by decide) (Nat.le_succ_of_le hf)) x5 (0 : Int32) _) (by decide) (Nat.le_of_ble_eq_true rfl) (Nat.lt_of_lt_of_le (by decide : 0 < NT) (Nat.le_succ_of_le hf)) (congrArg Prod.fst s_0) (by decide) (fun _ => rfl) (Nat.le_of_ble_eq_true rfl) rfl (fun r99 e99 => ?_)
    refine ag_bipush (q := 104) (v := 9) dL_strays_102 rfl (by decide) ?_
    refine ag_icmp_eq (tgt := 171) (q := 107) dL_strays_104 rfl rfl ?_ ?_
    · refine ag_iconst (q := 172) (v := 0) dL_strays_171 rfl (by decide) ?_
      exact ag_zretK dL_strays_172 rfl (by decide) rfl
    exact A_L_strays_b107 K  f hf  (fun x2 x3 x5 σ => J_L_strays_b37 f   k x2 x3 x5 σ) (fun x2 x3 x5 σ => ih x2 x3 x5 σ) x2 x3 x5 (up s54 f x5.toNatClampNeg r54)
def J_L_strays (f : Nat) (a2 : Int32) (σ : Sg) : Option (Int32 × Nat × Sg) :=
  (bd1 (J_X7_beast a2 (2 : Int32) σ) fun r3 => (if 0 ≤ r3 then (ckA (f + 1) (J_L_strays_b37 f   FU a2 (0 : Int32) (0 : Int32) (nwa σ f 36))) else (bd2 (J_X7_stray a2 (3 : Int32) σ) fun r12 s12 => (if r12 = (-2 : Int32) then (some ((1 : Int32), f, s12)) else (some ((0 : Int32), f, s12))))))
set_option maxHeartbeats 4000000 in
theorem A_L_strays (K : KT)  (f : Nat) (hf : NT ≤ f) (a2 : Int32) (σ : Sg) : AG K mL_strays f tA (J_L_strays f a2 σ) 0 [some (.ref 0), some (.ref 141), some (.int a2), none, none, none, none, none, none] [] σ := by
  unfold J_L_strays
  refine ag_aload_0 (q := 1) dL_strays_0 rfl ?_
  refine ag_iload_2 (q := 2) dL_strays_1 rfl ?_
  refine ag_iconst (q := 3) (v := 2) dL_strays_2 rfl (by decide) ?_
  refine ag_callV_pI (q := 6) (av := [.int _, .int _]) (rest := []) dL_strays_3 rfl lkL_49 (C_X7_beast (Nat.le_trans (by decide) hf) a2 (2 : Int32) _) (by decide) (Nat.le_of_ble_eq_true rfl) (Nat.lt_of_lt_of_le (by decide : 0 < NT) hf) (congrArg Prod.fst s_0) (by decide) (fun _ => rfl) (Nat.le_of_ble_eq_true rfl) rfl (fun r3 e3 => ?_)
  refine ag_if_ge (tgt := 26) (q := 9) dL_strays_6 rfl rfl ?_ ?_
  · refine ag_iconst (q := 27) (v := 0) dL_strays_26 rfl (by decide) ?_
    refine ag_istore_3 (q := 28) dL_strays_27 rfl (Nat.le_of_ble_eq_true rfl) rfl ?_
    refine ag_bipush (q := 30) (v := 36) dL_strays_28 rfl (by decide) ?_
    refine ag_newd (q := 32) (len := 36) dL_strays_30 rfl hacI hf (by decide) (by decide) (by decide) ?_
    refine ag_astore_4 (q := 34) dL_strays_32 rfl (Nat.le_of_ble_eq_true rfl) rfl ?_
    refine ag_iconst (q := 35) (v := 0) dL_strays_34 rfl (by decide) ?_
    refine ag_istore_5 (q := 37) dL_strays_35 rfl (Nat.le_of_ble_eq_true rfl) rfl ?_
    exact A_L_strays_b37 K  f hf   FU a2 (0 : Int32) (0 : Int32) (nwa σ f 36)
  refine ag_aload_0 (q := 10) dL_strays_9 rfl ?_
  refine ag_iload_2 (q := 11) dL_strays_10 rfl ?_
  refine ag_iconst (q := 12) (v := 3) dL_strays_11 rfl (by decide) ?_
  refine ag_callV_mI (q := 15) (av := [.int _, .int _]) (rest := []) dL_strays_12 rfl lkL_67 (C_X7_stray (Nat.le_trans (by decide) hf) a2 (3 : Int32) _) (by decide) (Nat.le_of_ble_eq_true rfl) (Nat.lt_of_lt_of_le (by decide : 0 < NT) hf) (congrArg Prod.fst s_0) (by decide) (fun _ => rfl) (Nat.le_of_ble_eq_true rfl) rfl (fun r12 s12 e12 => ?_)
  refine ag_bipush (q := 17) (v := -2) dL_strays_15 rfl (by decide) ?_
  refine ag_icmp_ne (tgt := 24) (q := 20) dL_strays_17 rfl rfl ?_ ?_
  · refine ag_iconst (q := 25) (v := 0) dL_strays_24 rfl (by decide) ?_
    exact ag_zretK dL_strays_25 rfl (by decide) rfl
  refine ag_iconst (q := 21) (v := 1) dL_strays_20 rfl (by decide) ?_
  refine ag_goto (q := 25) dL_strays_21 rfl ?_
  exact ag_zretK dL_strays_25 rfl (by decide) rfl
theorem C_L_strays (f : Nat) (hf : NT ≤ f) (a2 : Int32) (σ : Sg) : ∀ r n s', J_L_strays f a2 σ = some (r, n, s') → f ≤ n → AMc yL_strays mL_strays [.ref 0, .ref 141, .int a2] f R0 σ (some (.int r), n, R0, s') := fun r n s' e hle => AMc.of (L := [some (.ref 0), some (.ref 141), some (.int a2), none, none, none, none, none, none]) (by decide) rfl (fun _ => rfl) (fun _ => Nat.le_of_ble_eq_true rfl) hle (fun K => A_L_strays K f hf a2 σ _ e hle)
def J_L_games_b91  (x1 : Int32) (x3 : Int32) (w0 : Int32) (σ : Sg) : Option (Int32 × Sg) :=
  (if w0 < 0 then (some ((0 : Int32), σ)) else (bd1 (J_X7_count (6 : Int32) σ) fun r101 => (if r101 = x1 then (bd2 (J_X7_undo  σ) fun r109 s109 => (if r109 < 0 then (some ((0 : Int32), s109)) else (bd2 (J_X7_rest  s109) fun r116 s116 => (if 0 ≤ r116 then (bd1 (J_X7_count (6 : Int32) s116) fun r127 => (if x3 = 0 then (if r127 < x1 then (some ((0 : Int32), s116)) else (bd2 (J_X7_undo  s116) fun r152 s152 => (if r152 < 0 then (some ((0 : Int32), s152)) else (some ((1 : Int32), s152))))) else (if x1 < r127 then (some ((0 : Int32), s116)) else (bd2 (J_X7_undo  s116) fun r152 s152 => (if r152 < 0 then (some ((0 : Int32), s152)) else (some ((1 : Int32), s152))))))) else (some ((0 : Int32), s116)))))) else (some ((0 : Int32), σ)))))
set_option maxHeartbeats 4000000 in
theorem A_L_games_b91 (K : KT) {N : Nat} (hN : NT ≤ N)  (x1 : Int32) (x3 : Int32) (w0 : Int32) (σ : Sg) : AG K mL_games N (fun a : Int32 × Sg => (some (.int a.1), N, R0, a.2)) (J_L_games_b91   x1 x3 w0 σ) 91 [some (.ref 0), some (.int x1), none, some (.int x3), none, none] [.int w0] σ := by
  unfold J_L_games_b91
  refine ag_istore_4 (q := 93) dL_games_91 rfl (Nat.le_of_ble_eq_true rfl) rfl ?_
  refine ag_iload_4 (q := 95) dL_games_93 rfl ?_
  refine ag_if_lt (tgt := 122) (q := 98) dL_games_95 rfl rfl ?_ ?_
  · refine ag_iconst (q := 123) (v := 0) dL_games_122 rfl (by decide) ?_
    exact ag_zretK dL_games_123 rfl (by decide) rfl
  refine ag_aload_0 (q := 99) dL_games_98 rfl ?_
  refine ag_bipush (q := 101) (v := 6) dL_games_99 rfl (by decide) ?_
  refine ag_callV_pI (q := 104) (av := [.int _]) (rest := []) dL_games_101 rfl lkL_52 (C_X7_count (Nat.le_trans (by decide) hN) (6 : Int32) _) (by decide) (Nat.le_of_ble_eq_true rfl) (Nat.lt_of_lt_of_le (by decide : 0 < NT) hN) (congrArg Prod.fst s_0) (by decide) (fun _ => rfl) (Nat.le_of_ble_eq_true rfl) rfl (fun r101 e101 => ?_)
  refine ag_iload_1 (q := 105) dL_games_104 rfl ?_
  refine ag_icmp_ne (tgt := 122) (q := 108) dL_games_105 rfl rfl ?_ ?_
  · refine ag_iconst (q := 123) (v := 0) dL_games_122 rfl (by decide) ?_
    exact ag_zretK dL_games_123 rfl (by decide) rfl
  refine ag_aload_0 (q := 109) dL_games_108 rfl ?_
  refine ag_callV_mI (q := 112) (av := []) (rest := []) dL_games_109 rfl lkL_64 (C_X7_undo (Nat.le_trans (by decide) hN)  _) (by decide) (Nat.le_of_ble_eq_true rfl) (Nat.lt_of_lt_of_le (by decide : 0 < NT) hN) (congrArg Prod.fst s_0) (by decide) (fun _ => rfl) (Nat.le_of_ble_eq_true rfl) rfl (fun r109 s109 e109 => ?_)
  refine ag_if_lt (tgt := 122) (q := 115) dL_games_112 rfl rfl ?_ ?_
  · refine ag_iconst (q := 123) (v := 0) dL_games_122 rfl (by decide) ?_
    exact ag_zretK dL_games_123 rfl (by decide) rfl
  refine ag_aload_0 (q := 116) dL_games_115 rfl ?_
  refine ag_callV_mI (q := 119) (av := []) (rest := []) dL_games_116 rfl lkL_84 (C_X7_rest (Nat.le_trans (by decide) hN)  _) (by decide) (Nat.le_of_ble_eq_true rfl) (Nat.lt_of_lt_of_le (by decide : 0 < NT) hN) (congrArg Prod.fst s_0) (by decide) (fun _ => rfl) (Nat.le_of_ble_eq_true rfl) rfl (fun r116 s116 e116 => ?_)
  refine ag_if_ge (tgt := 124) (q := 122) dL_games_119 rfl rfl ?_ ?_
  · refine ag_aload_0 (q := 125) dL_games_124 rfl ?_
    refine ag_bipush (q := 127) (v := 6) dL_games_125 rfl (by decide) ?_
    refine ag_callV_pI (q := 130) (av := [.int _]) (rest := []) dL_games_127 rfl lkL_52 (C_X7_count (Nat.le_trans (by decide) hN) (6 : Int32) _) (by decide) (Nat.le_of_ble_eq_true rfl) (Nat.lt_of_lt_of_le (by decide : 0 < NT) hN) (congrArg Prod.fst s_0) (by decide) (fun _ => rfl) (Nat.le_of_ble_eq_true rfl) rfl (fun r127 e127 => ?_)
    refine ag_istore_5 (q := 132) dL_games_130 rfl (Nat.le_of_ble_eq_true rfl) rfl ?_
    refine ag_iload_3 (q := 133) dL_games_132 rfl ?_
    refine ag_if_eq (tgt := 145) (q := 136) dL_games_133 rfl rfl ?_ ?_
    · refine ag_iload_5 (q := 147) dL_games_145 rfl ?_
      refine ag_iload_1 (q := 148) dL_games_147 rfl ?_
      refine ag_icmp_lt (tgt := 162) (q := 151) dL_games_148 rfl rfl ?_ ?_
      · refine ag_iconst (q := 163) (v := 0) dL_games_162 rfl (by decide) ?_
        exact ag_zretK dL_games_163 rfl (by decide) rfl
      refine ag_aload_0 (q := 152) dL_games_151 rfl ?_
      refine ag_callV_mI (q := 155) (av := []) (rest := []) dL_games_152 rfl lkL_64 (C_X7_undo (Nat.le_trans (by decide) hN)  _) (by decide) (Nat.le_of_ble_eq_true rfl) (Nat.lt_of_lt_of_le (by decide : 0 < NT) hN) (congrArg Prod.fst s_0) (by decide) (fun _ => rfl) (Nat.le_of_ble_eq_true rfl) rfl (fun r152 s152 e152 => ?_)
      refine ag_if_lt (tgt := 162) (q := 158) dL_games_155 rfl rfl ?_ ?_
      · refine ag_iconst (q := 163) (v := 0) dL_games_162 rfl (by decide) ?_
        exact ag_zretK dL_games_163 rfl (by decide) rfl
      refine ag_iconst (q := 159) (v := 1) dL_games_158 rfl (by decide) ?_
      refine ag_goto (q := 163) dL_games_159 rfl ?_
      exact ag_zretK dL_games_163 rfl (by decide) rfl
    refine ag_iload_5 (q := 138) dL_games_136 rfl ?_
    refine ag_iload_1 (q := 139) dL_games_138 rfl ?_
    refine ag_icmp_gt (tgt := 162) (q := 142) dL_games_139 rfl rfl ?_ ?_
    · refine ag_iconst (q := 163) (v := 0) dL_games_162 rfl (by decide) ?_
      exact ag_zretK dL_games_163 rfl (by decide) rfl
    refine ag_goto (q := 151) dL_games_142 rfl ?_
    refine ag_aload_0 (q := 152) dL_games_151 rfl ?_
    refine ag_callV_mI (q := 155) (av := []) (rest := []) dL_games_152 rfl lkL_64 (C_X7_undo (Nat.le_trans (by decide) hN)  _) (by decide) (Nat.le_of_ble_eq_true rfl) (Nat.lt_of_lt_of_le (by decide : 0 < NT) hN) (congrArg Prod.fst s_0) (by decide) (fun _ => rfl) (Nat.le_of_ble_eq_true rfl) rfl (fun r152 s152 e152 => ?_)
    refine ag_if_lt (tgt := 162) (q := 158) dL_games_155 rfl rfl ?_ ?_
    · refine ag_iconst (q := 163) (v := 0) dL_games_162 rfl (by decide) ?_
      exact ag_zretK dL_games_163 rfl (by decide) rfl
    refine ag_iconst (q := 159) (v := 1) dL_games_158 rfl (by decide) ?_
    refine ag_goto (q := 163) dL_games_159 rfl ?_
    exact ag_zretK dL_games_163 rfl (by decide) rfl
  refine ag_iconst (q := 123) (v := 0) dL_games_122 rfl (by decide) ?_
  exact ag_zretK dL_games_123 rfl (by decide) rfl
def J_L_games_b65  (x1 : Int32) (x2 : Int32) (w0 : Int32) (σ : Sg) : Option (Int32 × Sg) :=
  (if x2 = (99 : Int32) then (bd2 (J_X7_rest  σ) fun r73 s73 => (J_L_games_b91   x1 w0 r73 s73)) else (bd2 (J_X7_drive (x2 / (10 : Int32)) (rmI x2 (10 : Int32)) σ) fun r88 s88 => (J_L_games_b91   x1 w0 r88 s88)))
set_option maxHeartbeats 4000000 in
theorem A_L_games_b65 (K : KT) {N : Nat} (hN : NT ≤ N)  (x1 : Int32) (x2 : Int32) (w0 : Int32) (σ : Sg) : AG K mL_games N (fun a : Int32 × Sg => (some (.int a.1), N, R0, a.2)) (J_L_games_b65   x1 x2 w0 σ) 65 [some (.ref 0), some (.int x1), some (.int x2), none, none, none] [.int w0] σ := by
  unfold J_L_games_b65
  refine ag_istore_3 (q := 66) dL_games_65 rfl (Nat.le_of_ble_eq_true rfl) rfl ?_
  refine ag_iload_2 (q := 67) dL_games_66 rfl ?_
  refine ag_bipush (q := 69) (v := 99) dL_games_67 rfl (by decide) ?_
  refine ag_icmp_ne (tgt := 79) (q := 72) dL_games_69 rfl rfl ?_ ?_
  · refine ag_aload_0 (q := 80) dL_games_79 rfl ?_
    refine ag_iload_2 (q := 81) dL_games_80 rfl ?_
    refine ag_bipush (q := 83) (v := 10) dL_games_81 rfl (by decide) ?_
    refine ag_idivK (q := 84) dL_games_83 rfl (by decide) ?_
    refine ag_iload_2 (q := 85) dL_games_84 rfl ?_
    refine ag_bipush (q := 87) (v := 10) dL_games_85 rfl (by decide) ?_
    refine ag_iremK (q := 88) dL_games_87 rfl (by decide) ?_
    refine ag_callV_mI (q := 91) (av := [.int _, .int _]) (rest := []) dL_games_88 rfl lkL_61 (C_X7_drive (Nat.le_trans (by decide) hN) (x2 / (10 : Int32)) (rmI x2 (10 : Int32)) _) (by decide) (Nat.le_of_ble_eq_true rfl) (Nat.lt_of_lt_of_le (by decide : 0 < NT) hN) (congrArg Prod.fst s_0) (by decide) (fun _ => rfl) (Nat.le_of_ble_eq_true rfl) rfl (fun r88 s88 e88 => ?_)
    refine ag_kill_2 ?_
    exact A_L_games_b91 K hN   x1 w0 r88 s88
  refine ag_aload_0 (q := 73) dL_games_72 rfl ?_
  refine ag_callV_mI (q := 76) (av := []) (rest := []) dL_games_73 rfl lkL_84 (C_X7_rest (Nat.le_trans (by decide) hN)  _) (by decide) (Nat.le_of_ble_eq_true rfl) (Nat.lt_of_lt_of_le (by decide : 0 < NT) hN) (congrArg Prod.fst s_0) (by decide) (fun _ => rfl) (Nat.le_of_ble_eq_true rfl) rfl (fun r73 s73 e73 => ?_)
  refine ag_goto (q := 91) dL_games_76 rfl ?_
  refine ag_kill_2 ?_
  exact A_L_games_b91 K hN   x1 w0 r73 s73
def J_L_games  (σ : Sg) : Option (Int32 × Sg) :=
  (bd2 (J_X7_game (1 : Int32) (0 : Int32) σ) fun r3 s3 => (bd2 (J_X7_game (1 : Int32) (1 : Int32) s3) fun r10 s10 => (bd1 (J_X7_count (7 : Int32) s10) fun r17 => (if r17 = 0 then (bd1 (J_X7_count (3 : Int32) s10) fun r52 => (if (rmI r52 (2 : Int32)) = 0 then (J_L_games_b65   r3 r10 (1 : Int32) s10) else (J_L_games_b65   r3 r10 (0 : Int32) s10))) else (if r3 = (-2 : Int32) then (if r10 = (-2 : Int32) then (bd2 (J_X7_rest  s10) fun r36 s36 => (if r36 = (-2 : Int32) then (some ((1 : Int32), s36)) else (some ((0 : Int32), s36)))) else (some ((0 : Int32), s10))) else (some ((0 : Int32), s10)))))))
set_option maxHeartbeats 4000000 in
theorem A_L_games (K : KT) {N : Nat} (hN : NT ≤ N)  (σ : Sg) : AG K mL_games N (fun a : Int32 × Sg => (some (.int a.1), N, R0, a.2)) (J_L_games  σ) 0 [some (.ref 0), none, none, none, none, none] [] σ := by
  unfold J_L_games
  refine ag_aload_0 (q := 1) dL_games_0 rfl ?_
  refine ag_iconst (q := 2) (v := 1) dL_games_1 rfl (by decide) ?_
  refine ag_iconst (q := 3) (v := 0) dL_games_2 rfl (by decide) ?_
  refine ag_callV_mI (q := 6) (av := [.int _, .int _]) (rest := []) dL_games_3 rfl lkL_90 (C_X7_game (Nat.le_trans (by decide) hN) (1 : Int32) (0 : Int32) _) (by decide) (Nat.le_of_ble_eq_true rfl) (Nat.lt_of_lt_of_le (by decide : 0 < NT) hN) (congrArg Prod.fst s_0) (by decide) (fun _ => rfl) (Nat.le_of_ble_eq_true rfl) rfl (fun r3 s3 e3 => ?_)
  refine ag_istore_1 (q := 7) dL_games_6 rfl (Nat.le_of_ble_eq_true rfl) rfl ?_
  refine ag_aload_0 (q := 8) dL_games_7 rfl ?_
  refine ag_iconst (q := 9) (v := 1) dL_games_8 rfl (by decide) ?_
  refine ag_iconst (q := 10) (v := 1) dL_games_9 rfl (by decide) ?_
  refine ag_callV_mI (q := 13) (av := [.int _, .int _]) (rest := []) dL_games_10 rfl lkL_90 (C_X7_game (Nat.le_trans (by decide) hN) (1 : Int32) (1 : Int32) _) (by decide) (Nat.le_of_ble_eq_true rfl) (Nat.lt_of_lt_of_le (by decide : 0 < NT) hN) (congrArg Prod.fst s_0) (by decide) (fun _ => rfl) (Nat.le_of_ble_eq_true rfl) rfl (fun r10 s10 e10 => ?_)
  refine ag_istore_2 (q := 14) dL_games_13 rfl (Nat.le_of_ble_eq_true rfl) rfl ?_
  refine ag_aload_0 (q := 15) dL_games_14 rfl ?_
  refine ag_bipush (q := 17) (v := 7) dL_games_15 rfl (by decide) ?_
  refine ag_callV_pI (q := 20) (av := [.int _]) (rest := []) dL_games_17 rfl lkL_52 (C_X7_count (Nat.le_trans (by decide) hN) (7 : Int32) _) (by decide) (Nat.le_of_ble_eq_true rfl) (Nat.lt_of_lt_of_le (by decide : 0 < NT) hN) (congrArg Prod.fst s_0) (by decide) (fun _ => rfl) (Nat.le_of_ble_eq_true rfl) rfl (fun r17 e17 => ?_)
  refine ag_if_eq (tgt := 50) (q := 23) dL_games_20 rfl rfl ?_ ?_
  · refine ag_aload_0 (q := 51) dL_games_50 rfl ?_
    refine ag_iconst (q := 52) (v := 3) dL_games_51 rfl (by decide) ?_
    refine ag_callV_pI (q := 55) (av := [.int _]) (rest := []) dL_games_52 rfl lkL_52 (C_X7_count (Nat.le_trans (by decide) hN) (3 : Int32) _) (by decide) (Nat.le_of_ble_eq_true rfl) (Nat.lt_of_lt_of_le (by decide : 0 < NT) hN) (congrArg Prod.fst s_0) (by decide) (fun _ => rfl) (Nat.le_of_ble_eq_true rfl) rfl (fun r52 e52 => ?_)
    refine ag_iconst (q := 56) (v := 2) dL_games_55 rfl (by decide) ?_
    refine ag_iremK (q := 57) dL_games_56 rfl (by decide) ?_
    refine ag_if_ne (tgt := 64) (q := 60) dL_games_57 rfl rfl ?_ ?_
    · refine ag_iconst (q := 65) (v := 0) dL_games_64 rfl (by decide) ?_
      exact A_L_games_b65 K hN   r3 r10 (0 : Int32) s10
    refine ag_iconst (q := 61) (v := 1) dL_games_60 rfl (by decide) ?_
    refine ag_goto (q := 65) dL_games_61 rfl ?_
    exact A_L_games_b65 K hN   r3 r10 (1 : Int32) s10
  refine ag_iload_1 (q := 24) dL_games_23 rfl ?_
  refine ag_bipush (q := 26) (v := -2) dL_games_24 rfl (by decide) ?_
  refine ag_icmp_ne (tgt := 48) (q := 29) dL_games_26 rfl rfl ?_ ?_
  · refine ag_iconst (q := 49) (v := 0) dL_games_48 rfl (by decide) ?_
    exact ag_zretK dL_games_49 rfl (by decide) rfl
  refine ag_iload_2 (q := 30) dL_games_29 rfl ?_
  refine ag_bipush (q := 32) (v := -2) dL_games_30 rfl (by decide) ?_
  refine ag_icmp_ne (tgt := 48) (q := 35) dL_games_32 rfl rfl ?_ ?_
  · refine ag_iconst (q := 49) (v := 0) dL_games_48 rfl (by decide) ?_
    exact ag_zretK dL_games_49 rfl (by decide) rfl
  refine ag_aload_0 (q := 36) dL_games_35 rfl ?_
  refine ag_callV_mI (q := 39) (av := []) (rest := []) dL_games_36 rfl lkL_84 (C_X7_rest (Nat.le_trans (by decide) hN)  _) (by decide) (Nat.le_of_ble_eq_true rfl) (Nat.lt_of_lt_of_le (by decide : 0 < NT) hN) (congrArg Prod.fst s_0) (by decide) (fun _ => rfl) (Nat.le_of_ble_eq_true rfl) rfl (fun r36 s36 e36 => ?_)
  refine ag_bipush (q := 41) (v := -2) dL_games_39 rfl (by decide) ?_
  refine ag_icmp_ne (tgt := 48) (q := 44) dL_games_41 rfl rfl ?_ ?_
  · refine ag_iconst (q := 49) (v := 0) dL_games_48 rfl (by decide) ?_
    exact ag_zretK dL_games_49 rfl (by decide) rfl
  refine ag_iconst (q := 45) (v := 1) dL_games_44 rfl (by decide) ?_
  refine ag_goto (q := 49) dL_games_45 rfl ?_
  exact ag_zretK dL_games_49 rfl (by decide) rfl
theorem C_L_games {N : Nat} (hN : NT ≤ N)  (σ : Sg) : ∀ r s', J_L_games  σ = some (r, s') → AMc yL_games mL_games [.ref 0] N R0 σ (some (.int r), N, R0, s') := fun r s' e => AMc.of (L := [some (.ref 0), none, none, none, none, none]) (by decide) rfl (fun _ => rfl) (fun _ => Nat.le_of_ble_eq_true rfl) (Nat.le_refl _) (fun K => A_L_games K hN  σ _ e (Nat.le_refl _))
def J_L_summers_b318 (f : Nat)  (x4 : Int32) (x6 : Int32) (x7 : Int32) (w0 : Int32) (σ : Sg) : Option (Int32 × Nat × Sg) :=
  (if w0 = x6 then (if inb x7 (dl σ f) = true then (if (σ f x7.toNatClampNeg) = (-4 : Int32) then (bd2 (J_X7_back  σ) fun r334 s334 => (if r334 < 0 then (some ((0 : Int32), (f + 1), s334)) else (bd1 (J_X7_count (3 : Int32) s334) fun r342 => (if r342 = x4 then (bd2 (J_L_games  s334) fun r351 s351 => (if r351 = 0 then (some ((0 : Int32), (f + 1), s351)) else (some ((1 : Int32), (f + 1), s351)))) else (some ((0 : Int32), (f + 1), s334)))))) else (some ((0 : Int32), (f + 1), σ))) else none) else (some ((0 : Int32), (f + 1), σ)))
set_option maxHeartbeats 4000000 in
theorem A_L_summers_b318 (K : KT)  (f : Nat) (hf : NT ≤ f)  (x4 : Int32) (x6 : Int32) (x7 : Int32) (w0 : Int32) (σ : Sg) : AG K mL_summers (f + 1) tA (J_L_summers_b318 f   x4 x6 x7 w0 σ) 318 [some (.ref 0), none, none, none, some (.int x4), some (.ref f), some (.int x6), some (.int x7), none, none, none] [.int w0] σ := by
  unfold J_L_summers_b318
  refine ag_iload_6 (q := 320) dL_summers_318 rfl ?_
  refine ag_icmp_ne (tgt := 361) (q := 323) dL_summers_320 rfl rfl ?_ ?_
  · refine ag_iconst (q := 362) (v := 0) dL_summers_361 rfl (by decide) ?_
    exact ag_zretK dL_summers_362 rfl (by decide) rfl
  refine ag_aload_5 (q := 325) dL_summers_323 rfl ?_
  refine ag_iload_7 (q := 327) dL_summers_325 rfl ?_
  refine ag_ialdD (q := 328) dL_summers_327 rfl (Nat.lt_succ_self f) (sh_dyn hf) ?_
  refine ag_bipush (q := 330) (v := -4) dL_summers_328 rfl (by decide) ?_
  refine ag_icmp_ne (tgt := 361) (q := 333) dL_summers_330 rfl rfl ?_ ?_
  · refine ag_iconst (q := 362) (v := 0) dL_summers_361 rfl (by decide) ?_
    exact ag_zretK dL_summers_362 rfl (by decide) rfl
  refine ag_aload_0 (q := 334) dL_summers_333 rfl ?_
  refine ag_callV_mI (q := 337) (av := []) (rest := []) dL_summers_334 rfl lkL_87 (C_X7_back (Nat.le_trans (by decide) (Nat.le_succ_of_le hf))  _) (by decide) (Nat.le_of_ble_eq_true rfl) (Nat.lt_of_lt_of_le (by decide : 0 < NT) (Nat.le_succ_of_le hf)) (congrArg Prod.fst s_0) (by decide) (fun _ => rfl) (Nat.le_of_ble_eq_true rfl) rfl (fun r334 s334 e334 => ?_)
  refine ag_if_lt (tgt := 361) (q := 340) dL_summers_337 rfl rfl ?_ ?_
  · refine ag_iconst (q := 362) (v := 0) dL_summers_361 rfl (by decide) ?_
    exact ag_zretK dL_summers_362 rfl (by decide) rfl
  refine ag_aload_0 (q := 341) dL_summers_340 rfl ?_
  refine ag_iconst (q := 342) (v := 3) dL_summers_341 rfl (by decide) ?_
  refine ag_callV_pI (q := 345) (av := [.int _]) (rest := []) dL_summers_342 rfl lkL_52 (C_X7_count (Nat.le_trans (by decide) (Nat.le_succ_of_le hf)) (3 : Int32) _) (by decide) (Nat.le_of_ble_eq_true rfl) (Nat.lt_of_lt_of_le (by decide : 0 < NT) (Nat.le_succ_of_le hf)) (congrArg Prod.fst s_0) (by decide) (fun _ => rfl) (Nat.le_of_ble_eq_true rfl) rfl (fun r342 e342 => ?_)
  refine ag_iload_4 (q := 347) dL_summers_345 rfl ?_
  refine ag_icmp_ne (tgt := 361) (q := 350) dL_summers_347 rfl rfl ?_ ?_
  · refine ag_iconst (q := 362) (v := 0) dL_summers_361 rfl (by decide) ?_
    exact ag_zretK dL_summers_362 rfl (by decide) rfl
  refine ag_aload_0 (q := 351) dL_summers_350 rfl ?_
  refine ag_callS_mI (q := 354) (av := [.ref _]) (rest := []) dL_summers_351 rfl lkL_77 (C_L_games (Nat.le_succ_of_le hf)  _) (by decide) (Nat.le_of_ble_eq_true rfl) (fun _ => rfl) (Nat.le_of_ble_eq_true rfl) rfl (fun r351 s351 e351 => ?_)
  refine ag_if_eq (tgt := 361) (q := 357) dL_summers_354 rfl rfl ?_ ?_
  · refine ag_iconst (q := 362) (v := 0) dL_summers_361 rfl (by decide) ?_
    exact ag_zretK dL_summers_362 rfl (by decide) rfl
  refine ag_iconst (q := 358) (v := 1) dL_summers_357 rfl (by decide) ?_
  refine ag_goto (q := 362) dL_summers_358 rfl ?_
  exact ag_zretK dL_summers_362 rfl (by decide) rfl
def J_L_summers_b236 (f : Nat)  : Nat → Int32 → Int32 → Int32 → Int32 → Int32 → Int32 → Sg → Option (Int32 × Nat × Sg)
  | 0, _, _, _, _, _, _, _ => none
  | k + 1, x2, x4, x6, x7, x8, x9, σ =>
    (if (σ 141 2) ≤ x9 then (if x8 = 0 then (some ((0 : Int32), (f + 1), σ)) else (if x2 = 0 then (bd1 (J_X7_count (4 : Int32) σ) fun r307 => (J_L_summers_b318 f   x4 x6 x7 r307 σ)) else (bd1 (J_X7_count (5 : Int32) σ) fun r315 => (J_L_summers_b318 f   x4 x6 x7 r315 σ)))) else (if x8 = 0 then (if inb ((13 : Int32) + x9) 22 = true then (if (σ 141 ((13 : Int32) + x9).toNatClampNeg) = 0 then (bd1 (J_X7_beast x9 (1 : Int32) σ) fun r263 => (if r263 = x2 then (bd1 (J_X7_beast x9 (2 : Int32) σ) fun r274 => (if r274 = (σ 141 3) then (J_L_summers_b236 f   k x2 x4 x6 x7 (1 : Int32) (x9 + (1)) σ) else (J_L_summers_b236 f   k x2 x4 x6 x7 (0 : Int32) (x9 + (1)) σ))) else (J_L_summers_b236 f   k x2 x4 x6 x7 (0 : Int32) (x9 + (1)) σ))) else (J_L_summers_b236 f   k x2 x4 x6 x7 (0 : Int32) (x9 + (1)) σ)) else none) else (J_L_summers_b236 f   k x2 x4 x6 x7 (1 : Int32) (x9 + (1)) σ)))
set_option maxHeartbeats 4000000 in
theorem A_L_summers_b236 (K : KT)  (f : Nat) (hf : NT ≤ f)  : ∀ (k : Nat) (x2 : Int32) (x4 : Int32) (x6 : Int32) (x7 : Int32) (x8 : Int32) (x9 : Int32) (σ : Sg), AG K mL_summers (f + 1) tA (J_L_summers_b236 f   k x2 x4 x6 x7 x8 x9 σ) 236 [some (.ref 0), some (.ref 141), some (.int x2), none, some (.int x4), some (.ref f), some (.int x6), some (.int x7), some (.int x8), some (.int x9), none] [] σ := by
  intro k
  induction k with
  | zero => intro x2 x4 x6 x7 x8 x9 σ; exact ag_none
  | succ k ih =>
    intro x2 x4 x6 x7 x8 x9 σ
    rw [J_L_summers_b236]
    refine ag_iload_9 (q := 238) dL_summers_236 rfl ?_
    refine ag_aload_1 (q := 239) dL_summers_238 rfl ?_
    refine ag_iconst (q := 240) (v := 2) dL_summers_239 rfl (by decide) ?_
    refine ag_ialdK (q := 241) (k := 2) dL_summers_240 rfl (Nat.lt_of_lt_of_le (by decide : 141 < NT) (Nat.le_succ_of_le hf)) s_141 (by decide) (by decide) ?_
    refine ag_icmp_ge (tgt := 296) (q := 244) dL_summers_241 rfl rfl ?_ ?_
    · refine ag_iload_8 (q := 298) dL_summers_296 rfl ?_
      refine ag_if_eq (tgt := 361) (q := 301) dL_summers_298 rfl rfl ?_ ?_
      · refine ag_iconst (q := 362) (v := 0) dL_summers_361 rfl (by decide) ?_
        exact ag_zretK dL_summers_362 rfl (by decide) rfl
      refine ag_iload_2 (q := 302) dL_summers_301 rfl ?_
      refine ag_if_ne (tgt := 313) (q := 305) dL_summers_302 rfl rfl ?_ ?_
      · refine ag_aload_0 (q := 314) dL_summers_313 rfl ?_
        refine ag_iconst (q := 315) (v := 5) dL_summers_314 rfl (by decide) ?_
        refine ag_callV_pI (q := 318) (av := [.int _]) (rest := []) dL_summers_315 rfl lkL_52 (C_X7_count (Nat.le_trans (by decide) (Nat.le_succ_of_le hf)) (5 : Int32) _) (by decide) (Nat.le_of_ble_eq_true rfl) (Nat.lt_of_lt_of_le (by decide : 0 < NT) (Nat.le_succ_of_le hf)) (congrArg Prod.fst s_0) (by decide) (fun _ => rfl) (Nat.le_of_ble_eq_true rfl) rfl (fun r315 e315 => ?_)
        refine ag_kill_1 ?_
        refine ag_kill_2 ?_
        refine ag_kill_8 ?_
        refine ag_kill_9 ?_
        exact A_L_summers_b318 K  f hf   x4 x6 x7 r315 σ
      refine ag_aload_0 (q := 306) dL_summers_305 rfl ?_
      refine ag_iconst (q := 307) (v := 4) dL_summers_306 rfl (by decide) ?_
      refine ag_callV_pI (q := 310) (av := [.int _]) (rest := []) dL_summers_307 rfl lkL_52 (C_X7_count (Nat.le_trans (by decide) (Nat.le_succ_of_le hf)) (4 : Int32) _) (by decide) (Nat.le_of_ble_eq_true rfl) (Nat.lt_of_lt_of_le (by decide : 0 < NT) (Nat.le_succ_of_le hf)) (congrArg Prod.fst s_0) (by decide) (fun _ => rfl) (Nat.le_of_ble_eq_true rfl) rfl (fun r307 e307 => ?_)
      refine ag_goto (q := 318) dL_summers_310 rfl ?_
      refine ag_kill_1 ?_
      refine ag_kill_2 ?_
      refine ag_kill_8 ?_
      refine ag_kill_9 ?_
      exact A_L_summers_b318 K  f hf   x4 x6 x7 r307 σ
    refine ag_iload_8 (q := 246) dL_summers_244 rfl ?_
    refine ag_if_ne (tgt := 283) (q := 249) dL_summers_246 rfl rfl ?_ ?_
    · refine ag_iconst (q := 284) (v := 1) dL_summers_283 rfl (by decide) ?_
      refine ag_goto (q := 288) dL_summers_284 rfl ?_
      refine ag_istore_8 (q := 290) dL_summers_288 rfl (Nat.le_of_ble_eq_true rfl) rfl ?_
      refine ag_iinc_9 (q := 293) (d := (1)) dL_summers_290 rfl (Nat.le_of_ble_eq_true rfl) rfl (by decide) ?_
      refine ag_goto (q := 236) dL_summers_293 rfl ?_
      exact ih x2 x4 x6 x7 (1 : Int32) (x9 + (1)) σ
    refine ag_aload_1 (q := 250) dL_summers_249 rfl ?_
    refine ag_bipush (q := 252) (v := 13) dL_summers_250 rfl (by decide) ?_
    refine ag_iload_9 (q := 254) dL_summers_252 rfl ?_
    refine ag_iadd (q := 255) dL_summers_254 rfl ?_
    refine ag_iald (q := 256) dL_summers_255 rfl (Nat.lt_of_lt_of_le (by decide : 141 < NT) (Nat.le_succ_of_le hf)) s_141 ?_
    refine ag_if_ne (tgt := 287) (q := 259) dL_summers_256 rfl rfl ?_ ?_
    · refine ag_iconst (q := 288) (v := 0) dL_summers_287 rfl (by decide) ?_
      refine ag_istore_8 (q := 290) dL_summers_288 rfl (Nat.le_of_ble_eq_true rfl) rfl ?_
      refine ag_iinc_9 (q := 293) (d := (1)) dL_summers_290 rfl (Nat.le_of_ble_eq_true rfl) rfl (by decide) ?_
      refine ag_goto (q := 236) dL_summers_293 rfl ?_
      exact ih x2 x4 x6 x7 (0 : Int32) (x9 + (1)) σ
    refine ag_aload_0 (q := 260) dL_summers_259 rfl ?_
    refine ag_iload_9 (q := 262) dL_summers_260 rfl ?_
    refine ag_iconst (q := 263) (v := 1) dL_summers_262 rfl (by decide) ?_
    refine ag_callV_pI (q := 266) (av := [.int _, .int _]) (rest := []) dL_summers_263 rfl lkL_49 (C_X7_beast (Nat.le_trans (by decide) (Nat.le_succ_of_le hf)) x9 (1 : Int32) _) (by decide) (Nat.le_of_ble_eq_true rfl) (Nat.lt_of_lt_of_le (by decide : 0 < NT) (Nat.le_succ_of_le hf)) (congrArg Prod.fst s_0) (by decide) (fun _ => rfl) (Nat.le_of_ble_eq_true rfl) rfl (fun r263 e263 => ?_)
    refine ag_iload_2 (q := 267) dL_summers_266 rfl ?_
    refine ag_icmp_ne (tgt := 287) (q := 270) dL_summers_267 rfl rfl ?_ ?_
    · refine ag_iconst (q := 288) (v := 0) dL_summers_287 rfl (by decide) ?_
      refine ag_istore_8 (q := 290) dL_summers_288 rfl (Nat.le_of_ble_eq_true rfl) rfl ?_
      refine ag_iinc_9 (q := 293) (d := (1)) dL_summers_290 rfl (Nat.le_of_ble_eq_true rfl) rfl (by decide) ?_
      refine ag_goto (q := 236) dL_summers_293 rfl ?_
      exact ih x2 x4 x6 x7 (0 : Int32) (x9 + (1)) σ
    refine ag_aload_0 (q := 271) dL_summers_270 rfl ?_
    refine ag_iload_9 (q := 273) dL_summers_271 rfl ?_
    refine ag_iconst (q := 274) (v := 2) dL_summers_273 rfl (by decide) ?_
    refine ag_callV_pI (q := 277) (av := [.int _, .int _]) (rest := []) dL_summers_274 rfl lkL_49 (C_X7_beast (Nat.le_trans (by decide) (Nat.le_succ_of_le hf)) x9 (2 : Int32) _) (by decide) (Nat.le_of_ble_eq_true rfl) (Nat.lt_of_lt_of_le (by decide : 0 < NT) (Nat.le_succ_of_le hf)) (congrArg Prod.fst s_0) (by decide) (fun _ => rfl) (Nat.le_of_ble_eq_true rfl) rfl (fun r274 e274 => ?_)
    refine ag_aload_1 (q := 278) dL_summers_277 rfl ?_
    refine ag_iconst (q := 279) (v := 3) dL_summers_278 rfl (by decide) ?_
    refine ag_ialdK (q := 280) (k := 3) dL_summers_279 rfl (Nat.lt_of_lt_of_le (by decide : 141 < NT) (Nat.le_succ_of_le hf)) s_141 (by decide) (by decide) ?_
    refine ag_icmp_ne (tgt := 287) (q := 283) dL_summers_280 rfl rfl ?_ ?_
    · refine ag_iconst (q := 288) (v := 0) dL_summers_287 rfl (by decide) ?_
      refine ag_istore_8 (q := 290) dL_summers_288 rfl (Nat.le_of_ble_eq_true rfl) rfl ?_
      refine ag_iinc_9 (q := 293) (d := (1)) dL_summers_290 rfl (Nat.le_of_ble_eq_true rfl) rfl (by decide) ?_
      refine ag_goto (q := 236) dL_summers_293 rfl ?_
      exact ih x2 x4 x6 x7 (0 : Int32) (x9 + (1)) σ
    refine ag_iconst (q := 284) (v := 1) dL_summers_283 rfl (by decide) ?_
    refine ag_goto (q := 288) dL_summers_284 rfl ?_
    refine ag_istore_8 (q := 290) dL_summers_288 rfl (Nat.le_of_ble_eq_true rfl) rfl ?_
    refine ag_iinc_9 (q := 293) (d := (1)) dL_summers_290 rfl (Nat.le_of_ble_eq_true rfl) rfl (by decide) ?_
    refine ag_goto (q := 236) dL_summers_293 rfl ?_
    exact ih x2 x4 x6 x7 (1 : Int32) (x9 + (1)) σ
def J_L_summers_b175 (f : Nat)  (y122 : Int32 → Int32 → Int32 → Int32 → Int32 → Int32 → Sg → Option (Int32 × Nat × Sg)) (x2 : Int32) (x3 : Int32) (x4 : Int32) (x6 : Int32) (x8 : Int32) (x10 : Int32) (w0 : Int32) (w1 : Int32) (σ : Sg) : Option (Int32 × Nat × Sg) :=
  (if x10 < 0 then (some ((0 : Int32), (f + 1), σ)) else (if x10 = (99 : Int32) then (bd2 (J_X7_rest  σ) fun r191 s191 => (if 0 ≤ r191 then (y122 x2 x3 x4 x6 (w1 + w0) (x8 + (1)) s191) else (some ((0 : Int32), (f + 1), s191)))) else (bd2 (J_X7_drive (x10 / (10 : Int32)) (rmI x10 (10 : Int32)) σ) fun r208 s208 => (if 0 ≤ r208 then (y122 x2 x3 x4 x6 (w1 + w0) (x8 + (1)) s208) else (some ((0 : Int32), (f + 1), s208))))))
set_option maxHeartbeats 4000000 in
theorem A_L_summers_b175 (K : KT)  (f : Nat) (hf : NT ≤ f)  (y122 : Int32 → Int32 → Int32 → Int32 → Int32 → Int32 → Sg → Option (Int32 × Nat × Sg)) (hy122 : ∀ (x2 : Int32) (x3 : Int32) (x4 : Int32) (x6 : Int32) (x7 : Int32) (x8 : Int32) (σ : Sg), AG K mL_summers (f + 1) tA (y122 x2 x3 x4 x6 x7 x8 σ) 122 [some (.ref 0), some (.ref 141), some (.int x2), some (.int x3), some (.int x4), some (.ref f), some (.int x6), some (.int x7), some (.int x8), none, none] [] σ) (x2 : Int32) (x3 : Int32) (x4 : Int32) (x6 : Int32) (x8 : Int32) (x10 : Int32) (w0 : Int32) (w1 : Int32) (σ : Sg) : AG K mL_summers (f + 1) tA (J_L_summers_b175 f  y122 x2 x3 x4 x6 x8 x10 w0 w1 σ) 175 [some (.ref 0), some (.ref 141), some (.int x2), some (.int x3), some (.int x4), some (.ref f), some (.int x6), none, some (.int x8), none, some (.int x10)] [.int w0, .int w1] σ := by
  unfold J_L_summers_b175
  refine ag_iadd (q := 176) dL_summers_175 rfl ?_
  refine ag_istore_7 (q := 178) dL_summers_176 rfl (Nat.le_of_ble_eq_true rfl) rfl ?_
  refine ag_iload_10 (q := 180) dL_summers_178 rfl ?_
  refine ag_if_lt (tgt := 214) (q := 183) dL_summers_180 rfl rfl ?_ ?_
  · refine ag_iconst (q := 215) (v := 0) dL_summers_214 rfl (by decide) ?_
    exact ag_zretK dL_summers_215 rfl (by decide) rfl
  refine ag_iload_10 (q := 185) dL_summers_183 rfl ?_
  refine ag_bipush (q := 187) (v := 99) dL_summers_185 rfl (by decide) ?_
  refine ag_icmp_ne (tgt := 197) (q := 190) dL_summers_187 rfl rfl ?_ ?_
  · refine ag_aload_0 (q := 198) dL_summers_197 rfl ?_
    refine ag_iload_10 (q := 200) dL_summers_198 rfl ?_
    refine ag_bipush (q := 202) (v := 10) dL_summers_200 rfl (by decide) ?_
    refine ag_idivK (q := 203) dL_summers_202 rfl (by decide) ?_
    refine ag_iload_10 (q := 205) dL_summers_203 rfl ?_
    refine ag_bipush (q := 207) (v := 10) dL_summers_205 rfl (by decide) ?_
    refine ag_iremK (q := 208) dL_summers_207 rfl (by decide) ?_
    refine ag_callV_mI (q := 211) (av := [.int _, .int _]) (rest := []) dL_summers_208 rfl lkL_61 (C_X7_drive (Nat.le_trans (by decide) (Nat.le_succ_of_le hf)) (x10 / (10 : Int32)) (rmI x10 (10 : Int32)) _) (by decide) (Nat.le_of_ble_eq_true rfl) (Nat.lt_of_lt_of_le (by decide : 0 < NT) (Nat.le_succ_of_le hf)) (congrArg Prod.fst s_0) (by decide) (fun _ => rfl) (Nat.le_of_ble_eq_true rfl) rfl (fun r208 s208 e208 => ?_)
    refine ag_if_ge (tgt := 216) (q := 214) dL_summers_211 rfl rfl ?_ ?_
    · refine ag_iinc_8 (q := 219) (d := (1)) dL_summers_216 rfl (Nat.le_of_ble_eq_true rfl) rfl (by decide) ?_
      refine ag_goto (q := 122) dL_summers_219 rfl ?_
      refine ag_kill_10 ?_
      exact hy122 x2 x3 x4 x6 (w1 + w0) (x8 + (1)) s208
    refine ag_iconst (q := 215) (v := 0) dL_summers_214 rfl (by decide) ?_
    exact ag_zretK dL_summers_215 rfl (by decide) rfl
  refine ag_aload_0 (q := 191) dL_summers_190 rfl ?_
  refine ag_callV_mI (q := 194) (av := []) (rest := []) dL_summers_191 rfl lkL_84 (C_X7_rest (Nat.le_trans (by decide) (Nat.le_succ_of_le hf))  _) (by decide) (Nat.le_of_ble_eq_true rfl) (Nat.lt_of_lt_of_le (by decide : 0 < NT) (Nat.le_succ_of_le hf)) (congrArg Prod.fst s_0) (by decide) (fun _ => rfl) (Nat.le_of_ble_eq_true rfl) rfl (fun r191 s191 e191 => ?_)
  refine ag_goto (q := 211) dL_summers_194 rfl ?_
  refine ag_if_ge (tgt := 216) (q := 214) dL_summers_211 rfl rfl ?_ ?_
  · refine ag_iinc_8 (q := 219) (d := (1)) dL_summers_216 rfl (Nat.le_of_ble_eq_true rfl) rfl (by decide) ?_
    refine ag_goto (q := 122) dL_summers_219 rfl ?_
    refine ag_kill_10 ?_
    exact hy122 x2 x3 x4 x6 (w1 + w0) (x8 + (1)) s191
  refine ag_iconst (q := 215) (v := 0) dL_summers_214 rfl (by decide) ?_
  exact ag_zretK dL_summers_215 rfl (by decide) rfl
def J_L_summers_b144 (f : Nat)  (y122 : Int32 → Int32 → Int32 → Int32 → Int32 → Int32 → Sg → Option (Int32 × Nat × Sg)) (x2 : Int32) (x3 : Int32) (x4 : Int32) (x6 : Int32) (x7 : Int32) (x8 : Int32) (w0 : Int32) (σ : Sg) : Option (Int32 × Nat × Sg) :=
  (if w0 = 0 then (if w0 = 0 then (J_L_summers_b175 f  y122 x2 x3 x4 x6 x8 (99 : Int32) (0 : Int32) x7 σ) else (J_L_summers_b175 f  y122 x2 x3 x4 x6 x8 (99 : Int32) (1 : Int32) x7 σ)) else (if inb x7 (dl σ f) = true then (if w0 = 0 then (J_L_summers_b175 f  y122 x2 x3 x4 x6 x8 (σ f x7.toNatClampNeg) (0 : Int32) x7 σ) else (J_L_summers_b175 f  y122 x2 x3 x4 x6 x8 (σ f x7.toNatClampNeg) (1 : Int32) x7 σ)) else none))
set_option maxHeartbeats 4000000 in
theorem A_L_summers_b144 (K : KT)  (f : Nat) (hf : NT ≤ f)  (y122 : Int32 → Int32 → Int32 → Int32 → Int32 → Int32 → Sg → Option (Int32 × Nat × Sg)) (hy122 : ∀ (x2 : Int32) (x3 : Int32) (x4 : Int32) (x6 : Int32) (x7 : Int32) (x8 : Int32) (σ : Sg), AG K mL_summers (f + 1) tA (y122 x2 x3 x4 x6 x7 x8 σ) 122 [some (.ref 0), some (.ref 141), some (.int x2), some (.int x3), some (.int x4), some (.ref f), some (.int x6), some (.int x7), some (.int x8), none, none] [] σ) (x2 : Int32) (x3 : Int32) (x4 : Int32) (x6 : Int32) (x7 : Int32) (x8 : Int32) (w0 : Int32) (σ : Sg) : AG K mL_summers (f + 1) tA (J_L_summers_b144 f  y122 x2 x3 x4 x6 x7 x8 w0 σ) 144 [some (.ref 0), some (.ref 141), some (.int x2), some (.int x3), some (.int x4), some (.ref f), some (.int x6), some (.int x7), some (.int x8), none, none] [.int w0] σ := by
  unfold J_L_summers_b144
  refine ag_istore_9 (q := 146) dL_summers_144 rfl (Nat.le_of_ble_eq_true rfl) rfl ?_
  refine ag_iload_9 (q := 148) dL_summers_146 rfl ?_
  refine ag_if_eq (tgt := 159) (q := 151) dL_summers_148 rfl rfl ?_ ?_
  · refine ag_bipush (q := 161) (v := 99) dL_summers_159 rfl (by decide) ?_
    refine ag_istore_10 (q := 163) dL_summers_161 rfl (Nat.le_of_ble_eq_true rfl) rfl ?_
    refine ag_iload_7 (q := 165) dL_summers_163 rfl ?_
    refine ag_iload_9 (q := 167) dL_summers_165 rfl ?_
    refine ag_if_eq (tgt := 174) (q := 170) dL_summers_167 rfl rfl ?_ ?_
    · refine ag_iconst (q := 175) (v := 0) dL_summers_174 rfl (by decide) ?_
      refine ag_kill_7 ?_
      refine ag_kill_9 ?_
      exact A_L_summers_b175 K  f hf  y122 hy122 x2 x3 x4 x6 x8 (99 : Int32) (0 : Int32) x7 σ
    refine ag_iconst (q := 171) (v := 1) dL_summers_170 rfl (by decide) ?_
    refine ag_goto (q := 175) dL_summers_171 rfl ?_
    refine ag_kill_7 ?_
    refine ag_kill_9 ?_
    exact A_L_summers_b175 K  f hf  y122 hy122 x2 x3 x4 x6 x8 (99 : Int32) (1 : Int32) x7 σ
  refine ag_aload_5 (q := 153) dL_summers_151 rfl ?_
  refine ag_iload_7 (q := 155) dL_summers_153 rfl ?_
  refine ag_ialdD (q := 156) dL_summers_155 rfl (Nat.lt_succ_self f) (sh_dyn hf) ?_
  refine ag_goto (q := 161) dL_summers_156 rfl ?_
  refine ag_istore_10 (q := 163) dL_summers_161 rfl (Nat.le_of_ble_eq_true rfl) rfl ?_
  refine ag_iload_7 (q := 165) dL_summers_163 rfl ?_
  refine ag_iload_9 (q := 167) dL_summers_165 rfl ?_
  refine ag_if_eq (tgt := 174) (q := 170) dL_summers_167 rfl rfl ?_ ?_
  · refine ag_iconst (q := 175) (v := 0) dL_summers_174 rfl (by decide) ?_
    refine ag_kill_7 ?_
    refine ag_kill_9 ?_
    exact A_L_summers_b175 K  f hf  y122 hy122 x2 x3 x4 x6 x8 (σ f x7.toNatClampNeg) (0 : Int32) x7 σ
  refine ag_iconst (q := 171) (v := 1) dL_summers_170 rfl (by decide) ?_
  refine ag_goto (q := 175) dL_summers_171 rfl ?_
  refine ag_kill_7 ?_
  refine ag_kill_9 ?_
  exact A_L_summers_b175 K  f hf  y122 hy122 x2 x3 x4 x6 x8 (σ f x7.toNatClampNeg) (1 : Int32) x7 σ
def J_L_summers_b122 (f : Nat)  : Nat → Int32 → Int32 → Int32 → Int32 → Int32 → Int32 → Sg → Option (Int32 × Nat × Sg)
  | 0, _, _, _, _, _, _, _ => none
  | k + 1, x2, x3, x4, x6, x7, x8, σ =>
    (if x3 ≤ x8 then (if 0 ≤ x3 then (J_L_summers_b236 f   FU x2 x4 x6 x7 (0 : Int32) (0 : Int32) σ) else (J_L_summers_b236 f   FU x2 x4 x6 x7 (1 : Int32) (0 : Int32) σ)) else (if (rmI (x4 + x8) (2 : Int32)) = x2 then (J_L_summers_b144 f  (fun x2 x3 x4 x6 x7 x8 σ => J_L_summers_b122 f   k x2 x3 x4 x6 x7 x8 σ) x2 x3 x4 x6 x7 x8 (1 : Int32) σ) else (J_L_summers_b144 f  (fun x2 x3 x4 x6 x7 x8 σ => J_L_summers_b122 f   k x2 x3 x4 x6 x7 x8 σ) x2 x3 x4 x6 x7 x8 (0 : Int32) σ)))
set_option maxHeartbeats 4000000 in
theorem A_L_summers_b122 (K : KT)  (f : Nat) (hf : NT ≤ f)  : ∀ (k : Nat) (x2 : Int32) (x3 : Int32) (x4 : Int32) (x6 : Int32) (x7 : Int32) (x8 : Int32) (σ : Sg), AG K mL_summers (f + 1) tA (J_L_summers_b122 f   k x2 x3 x4 x6 x7 x8 σ) 122 [some (.ref 0), some (.ref 141), some (.int x2), some (.int x3), some (.int x4), some (.ref f), some (.int x6), some (.int x7), some (.int x8), none, none] [] σ := by
  intro k
  induction k with
  | zero => intro x2 x3 x4 x6 x7 x8 σ; exact ag_none
  | succ k ih =>
    intro x2 x3 x4 x6 x7 x8 σ
    rw [J_L_summers_b122]
    refine ag_iload_8 (q := 124) dL_summers_122 rfl ?_
    refine ag_iload_3 (q := 125) dL_summers_124 rfl ?_
    refine ag_icmp_ge (tgt := 222) (q := 128) dL_summers_125 rfl rfl ?_ ?_
    · refine ag_iload_3 (q := 223) dL_summers_222 rfl ?_
      refine ag_if_ge (tgt := 230) (q := 226) dL_summers_223 rfl rfl ?_ ?_
      · refine ag_iconst (q := 231) (v := 0) dL_summers_230 rfl (by decide) ?_
        refine ag_istore_8 (q := 233) dL_summers_231 rfl (Nat.le_of_ble_eq_true rfl) rfl ?_
        refine ag_iconst (q := 234) (v := 0) dL_summers_233 rfl (by decide) ?_
        refine ag_istore_9 (q := 236) dL_summers_234 rfl (Nat.le_of_ble_eq_true rfl) rfl ?_
        refine ag_kill_3 ?_
        exact A_L_summers_b236 K  f hf   FU x2 x4 x6 x7 (0 : Int32) (0 : Int32) σ
      refine ag_iconst (q := 227) (v := 1) dL_summers_226 rfl (by decide) ?_
      refine ag_goto (q := 231) dL_summers_227 rfl ?_
      refine ag_istore_8 (q := 233) dL_summers_231 rfl (Nat.le_of_ble_eq_true rfl) rfl ?_
      refine ag_iconst (q := 234) (v := 0) dL_summers_233 rfl (by decide) ?_
      refine ag_istore_9 (q := 236) dL_summers_234 rfl (Nat.le_of_ble_eq_true rfl) rfl ?_
      refine ag_kill_3 ?_
      exact A_L_summers_b236 K  f hf   FU x2 x4 x6 x7 (1 : Int32) (0 : Int32) σ
    refine ag_iload_4 (q := 130) dL_summers_128 rfl ?_
    refine ag_iload_8 (q := 132) dL_summers_130 rfl ?_
    refine ag_iadd (q := 133) dL_summers_132 rfl ?_
    refine ag_iconst (q := 134) (v := 2) dL_summers_133 rfl (by decide) ?_
    refine ag_iremK (q := 135) dL_summers_134 rfl (by decide) ?_
    refine ag_iload_2 (q := 136) dL_summers_135 rfl ?_
    refine ag_icmp_ne (tgt := 143) (q := 139) dL_summers_136 rfl rfl ?_ ?_
    · refine ag_iconst (q := 144) (v := 0) dL_summers_143 rfl (by decide) ?_
      exact A_L_summers_b144 K  f hf  (fun x2 x3 x4 x6 x7 x8 σ => J_L_summers_b122 f   k x2 x3 x4 x6 x7 x8 σ) (fun x2 x3 x4 x6 x7 x8 σ => ih x2 x3 x4 x6 x7 x8 σ) x2 x3 x4 x6 x7 x8 (0 : Int32) σ
    refine ag_iconst (q := 140) (v := 1) dL_summers_139 rfl (by decide) ?_
    refine ag_goto (q := 144) dL_summers_140 rfl ?_
    exact A_L_summers_b144 K  f hf  (fun x2 x3 x4 x6 x7 x8 σ => J_L_summers_b122 f   k x2 x3 x4 x6 x7 x8 σ) (fun x2 x3 x4 x6 x7 x8 σ => ih x2 x3 x4 x6 x7 x8 σ) x2 x3 x4 x6 x7 x8 (1 : Int32) σ
def J_L_summers_b73 (f : Nat)  : Nat → Int32 → Int32 → Int32 → Int32 → Sg → Option (Int32 × Nat × Sg)
  | 0, _, _, _, _, _ => none
  | k + 1, x2, x3, x4, x6, σ =>
    (if (4 : Int32) ≤ x6 then (if x2 = 0 then (bd1 (J_X7_count (4 : Int32) σ) fun r103 => (J_L_summers_b122 f   FU x2 x3 x4 r103 (0 : Int32) (0 : Int32) σ)) else (bd1 (J_X7_count (5 : Int32) σ) fun r111 => (J_L_summers_b122 f   FU x2 x3 x4 r111 (0 : Int32) (0 : Int32) σ))) else (bd2 (J_X7_summer x2 x6 σ) fun r87 s87 => (if inb x6 (dl s87 f) = true then (J_L_summers_b73 f   k x2 x3 x4 (x6 + (1)) (up s87 f x6.toNatClampNeg r87)) else none)))
set_option maxHeartbeats 4000000 in
theorem A_L_summers_b73 (K : KT)  (f : Nat) (hf : NT ≤ f)  : ∀ (k : Nat) (x2 : Int32) (x3 : Int32) (x4 : Int32) (x6 : Int32) (σ : Sg), AG K mL_summers (f + 1) tA (J_L_summers_b73 f   k x2 x3 x4 x6 σ) 73 [some (.ref 0), some (.ref 141), some (.int x2), some (.int x3), some (.int x4), some (.ref f), some (.int x6), none, none, none, none] [] σ := by
  intro k
  induction k with
  | zero => intro x2 x3 x4 x6 σ; exact ag_none
  | succ k ih =>
    intro x2 x3 x4 x6 σ
    rw [J_L_summers_b73]
    refine ag_iload_6 (q := 75) dL_summers_73 rfl ?_
    refine ag_iconst (q := 76) (v := 4) dL_summers_75 rfl (by decide) ?_
    refine ag_icmp_ge (tgt := 97) (q := 79) dL_summers_76 rfl rfl ?_ ?_
    · refine ag_iload_2 (q := 98) dL_summers_97 rfl ?_
      refine ag_if_ne (tgt := 109) (q := 101) dL_summers_98 rfl rfl ?_ ?_
      · refine ag_aload_0 (q := 110) dL_summers_109 rfl ?_
        refine ag_iconst (q := 111) (v := 5) dL_summers_110 rfl (by decide) ?_
        refine ag_callV_pI (q := 114) (av := [.int _]) (rest := []) dL_summers_111 rfl lkL_52 (C_X7_count (Nat.le_trans (by decide) (Nat.le_succ_of_le hf)) (5 : Int32) _) (by decide) (Nat.le_of_ble_eq_true rfl) (Nat.lt_of_lt_of_le (by decide : 0 < NT) (Nat.le_succ_of_le hf)) (congrArg Prod.fst s_0) (by decide) (fun _ => rfl) (Nat.le_of_ble_eq_true rfl) rfl (fun r111 e111 => ?_)
        refine ag_istore_6 (q := 116) dL_summers_114 rfl (Nat.le_of_ble_eq_true rfl) rfl ?_
        refine ag_iconst (q := 117) (v := 0) dL_summers_116 rfl (by decide) ?_
        refine ag_istore_7 (q := 119) dL_summers_117 rfl (Nat.le_of_ble_eq_true rfl) rfl ?_
        refine ag_iconst (q := 120) (v := 0) dL_summers_119 rfl (by decide) ?_
        refine ag_istore_8 (q := 122) dL_summers_120 rfl (Nat.le_of_ble_eq_true rfl) rfl ?_
        exact A_L_summers_b122 K  f hf   FU x2 x3 x4 r111 (0 : Int32) (0 : Int32) σ
      refine ag_aload_0 (q := 102) dL_summers_101 rfl ?_
      refine ag_iconst (q := 103) (v := 4) dL_summers_102 rfl (by decide) ?_
      refine ag_callV_pI (q := 106) (av := [.int _]) (rest := []) dL_summers_103 rfl lkL_52 (C_X7_count (Nat.le_trans (by decide) (Nat.le_succ_of_le hf)) (4 : Int32) _) (by decide) (Nat.le_of_ble_eq_true rfl) (Nat.lt_of_lt_of_le (by decide : 0 < NT) (Nat.le_succ_of_le hf)) (congrArg Prod.fst s_0) (by decide) (fun _ => rfl) (Nat.le_of_ble_eq_true rfl) rfl (fun r103 e103 => ?_)
      refine ag_goto (q := 114) dL_summers_106 rfl ?_
      refine ag_istore_6 (q := 116) dL_summers_114 rfl (Nat.le_of_ble_eq_true rfl) rfl ?_
      refine ag_iconst (q := 117) (v := 0) dL_summers_116 rfl (by decide) ?_
      refine ag_istore_7 (q := 119) dL_summers_117 rfl (Nat.le_of_ble_eq_true rfl) rfl ?_
      refine ag_iconst (q := 120) (v := 0) dL_summers_119 rfl (by decide) ?_
      refine ag_istore_8 (q := 122) dL_summers_120 rfl (Nat.le_of_ble_eq_true rfl) rfl ?_
      exact A_L_summers_b122 K  f hf   FU x2 x3 x4 r103 (0 : Int32) (0 : Int32) σ
    refine ag_aload_5 (q := 81) dL_summers_79 rfl ?_
    refine ag_iload_6 (q := 83) dL_summers_81 rfl ?_
    refine ag_aload_0 (q := 84) dL_summers_83 rfl ?_
    refine ag_iload_2 (q := 85) dL_summers_84 rfl ?_
    refine ag_iload_6 (q := 87) dL_summers_85 rfl ?_
    refine ag_callV_mI (q := 90) (av := [.int _, .int _]) (rest := [.int _, .ref _]) dL_summers_87 rfl lkL_74 (C_X7_summer (Nat.le_trans (by decide) (Nat.le_succ_of_le hf)) x2 x6 _) (by decide) (Nat.le_of_ble_eq_true rfl) (Nat.lt_of_lt_of_le (by decide : 0 < NT) (Nat.le_succ_of_le hf)) (congrArg Prod.fst s_0) (by decide) (fun _ => rfl) (Nat.le_of_ble_eq_true rfl) rfl (fun r87 s87 e87 => ?_)
    refine ag_iastD (q := 91) dL_summers_90 rfl (Nat.lt_succ_self f) (sh_dyn hf) ?_
    refine ag_iinc_6 (q := 94) (d := (1)) dL_summers_91 rfl (Nat.le_of_ble_eq_true rfl) rfl (by decide) ?_
    refine ag_goto (q := 73) dL_summers_94 rfl ?_
    exact ih x2 x3 x4 (x6 + (1)) (up s87 f x6.toNatClampNeg r87)
def J_L_summers (f : Nat) (a2 : Int32) (σ : Sg) : Option (Int32 × Nat × Sg) :=
  (bd2 (J_X7_summer a2 (-1 : Int32) σ) fun r3 s3 => (bd1 (J_X7_count (3 : Int32) s3) fun r9 => (if 0 ≤ (s3 141 3) then (if r3 < (-4 : Int32) then (some ((0 : Int32), f, s3)) else (if (5 : Int32) < r3 then (some ((0 : Int32), f, s3)) else (if r3 = (-1 : Int32) then (some ((0 : Int32), f, s3)) else (bd2 (J_X7_keep  s3) fun r56 s56 => (if (1 : Int32) ≤ r56 then (ckA (f + 1) (J_L_summers_b73 f   FU a2 r3 r9 (0 : Int32) (nwa s56 f 4))) else (some ((0 : Int32), f, s56))))))) else (if r3 = (-2 : Int32) then (bd2 (J_L_games  s3) fun r27 s27 => (if r27 = 0 then (some ((0 : Int32), f, s27)) else (some ((1 : Int32), f, s27)))) else (some ((0 : Int32), f, s3))))))
set_option maxHeartbeats 4000000 in
theorem A_L_summers (K : KT)  (f : Nat) (hf : NT ≤ f) (a2 : Int32) (σ : Sg) : AG K mL_summers f tA (J_L_summers f a2 σ) 0 [some (.ref 0), some (.ref 141), some (.int a2), none, none, none, none, none, none, none, none] [] σ := by
  unfold J_L_summers
  refine ag_aload_0 (q := 1) dL_summers_0 rfl ?_
  refine ag_iload_2 (q := 2) dL_summers_1 rfl ?_
  refine ag_iconst (q := 3) (v := -1) dL_summers_2 rfl (by decide) ?_
  refine ag_callV_mI (q := 6) (av := [.int _, .int _]) (rest := []) dL_summers_3 rfl lkL_74 (C_X7_summer (Nat.le_trans (by decide) hf) a2 (-1 : Int32) _) (by decide) (Nat.le_of_ble_eq_true rfl) (Nat.lt_of_lt_of_le (by decide : 0 < NT) hf) (congrArg Prod.fst s_0) (by decide) (fun _ => rfl) (Nat.le_of_ble_eq_true rfl) rfl (fun r3 s3 e3 => ?_)
  refine ag_istore_3 (q := 7) dL_summers_6 rfl (Nat.le_of_ble_eq_true rfl) rfl ?_
  refine ag_aload_0 (q := 8) dL_summers_7 rfl ?_
  refine ag_iconst (q := 9) (v := 3) dL_summers_8 rfl (by decide) ?_
  refine ag_callV_pI (q := 12) (av := [.int _]) (rest := []) dL_summers_9 rfl lkL_52 (C_X7_count (Nat.le_trans (by decide) hf) (3 : Int32) _) (by decide) (Nat.le_of_ble_eq_true rfl) (Nat.lt_of_lt_of_le (by decide : 0 < NT) hf) (congrArg Prod.fst s_0) (by decide) (fun _ => rfl) (Nat.le_of_ble_eq_true rfl) rfl (fun r9 e9 => ?_)
  refine ag_istore_4 (q := 14) dL_summers_12 rfl (Nat.le_of_ble_eq_true rfl) rfl ?_
  refine ag_aload_1 (q := 15) dL_summers_14 rfl ?_
  refine ag_iconst (q := 16) (v := 3) dL_summers_15 rfl (by decide) ?_
  refine ag_ialdK (q := 17) (k := 3) dL_summers_16 rfl (Nat.lt_of_lt_of_le (by decide : 141 < NT) hf) s_141 (by decide) (by decide) ?_
  refine ag_if_ge (tgt := 39) (q := 20) dL_summers_17 rfl rfl ?_ ?_
  · refine ag_iload_3 (q := 40) dL_summers_39 rfl ?_
    refine ag_bipush (q := 42) (v := -4) dL_summers_40 rfl (by decide) ?_
    refine ag_icmp_lt (tgt := 63) (q := 45) dL_summers_42 rfl rfl ?_ ?_
    · refine ag_iconst (q := 64) (v := 0) dL_summers_63 rfl (by decide) ?_
      exact ag_zretK dL_summers_64 rfl (by decide) rfl
    refine ag_iload_3 (q := 46) dL_summers_45 rfl ?_
    refine ag_iconst (q := 47) (v := 5) dL_summers_46 rfl (by decide) ?_
    refine ag_icmp_gt (tgt := 63) (q := 50) dL_summers_47 rfl rfl ?_ ?_
    · refine ag_iconst (q := 64) (v := 0) dL_summers_63 rfl (by decide) ?_
      exact ag_zretK dL_summers_64 rfl (by decide) rfl
    refine ag_iload_3 (q := 51) dL_summers_50 rfl ?_
    refine ag_iconst (q := 52) (v := -1) dL_summers_51 rfl (by decide) ?_
    refine ag_icmp_eq (tgt := 63) (q := 55) dL_summers_52 rfl rfl ?_ ?_
    · refine ag_iconst (q := 64) (v := 0) dL_summers_63 rfl (by decide) ?_
      exact ag_zretK dL_summers_64 rfl (by decide) rfl
    refine ag_aload_0 (q := 56) dL_summers_55 rfl ?_
    refine ag_callV_mI (q := 59) (av := []) (rest := []) dL_summers_56 rfl lkL_81 (C_X7_keep (Nat.le_trans (by decide) hf)  _) (by decide) (Nat.le_of_ble_eq_true rfl) (Nat.lt_of_lt_of_le (by decide : 0 < NT) hf) (congrArg Prod.fst s_0) (by decide) (fun _ => rfl) (Nat.le_of_ble_eq_true rfl) rfl (fun r56 s56 e56 => ?_)
    refine ag_iconst (q := 60) (v := 1) dL_summers_59 rfl (by decide) ?_
    refine ag_icmp_ge (tgt := 65) (q := 63) dL_summers_60 rfl rfl ?_ ?_
    · refine ag_iconst (q := 66) (v := 4) dL_summers_65 rfl (by decide) ?_
      refine ag_newd (q := 68) (len := 4) dL_summers_66 rfl hacI hf (by decide) (by decide) (by decide) ?_
      refine ag_astore_5 (q := 70) dL_summers_68 rfl (Nat.le_of_ble_eq_true rfl) rfl ?_
      refine ag_iconst (q := 71) (v := 0) dL_summers_70 rfl (by decide) ?_
      refine ag_istore_6 (q := 73) dL_summers_71 rfl (Nat.le_of_ble_eq_true rfl) rfl ?_
      exact A_L_summers_b73 K  f hf   FU a2 r3 r9 (0 : Int32) (nwa s56 f 4)
    refine ag_iconst (q := 64) (v := 0) dL_summers_63 rfl (by decide) ?_
    exact ag_zretK dL_summers_64 rfl (by decide) rfl
  refine ag_iload_3 (q := 21) dL_summers_20 rfl ?_
  refine ag_bipush (q := 23) (v := -2) dL_summers_21 rfl (by decide) ?_
  refine ag_icmp_ne (tgt := 37) (q := 26) dL_summers_23 rfl rfl ?_ ?_
  · refine ag_iconst (q := 38) (v := 0) dL_summers_37 rfl (by decide) ?_
    exact ag_zretK dL_summers_38 rfl (by decide) rfl
  refine ag_aload_0 (q := 27) dL_summers_26 rfl ?_
  refine ag_callS_mI (q := 30) (av := [.ref _]) (rest := []) dL_summers_27 rfl lkL_77 (C_L_games hf  _) (by decide) (Nat.le_of_ble_eq_true rfl) (fun _ => rfl) (Nat.le_of_ble_eq_true rfl) rfl (fun r27 s27 e27 => ?_)
  refine ag_if_eq (tgt := 37) (q := 33) dL_summers_30 rfl rfl ?_ ?_
  · refine ag_iconst (q := 38) (v := 0) dL_summers_37 rfl (by decide) ?_
    exact ag_zretK dL_summers_38 rfl (by decide) rfl
  refine ag_iconst (q := 34) (v := 1) dL_summers_33 rfl (by decide) ?_
  refine ag_goto (q := 38) dL_summers_34 rfl ?_
  exact ag_zretK dL_summers_38 rfl (by decide) rfl
theorem C_L_summers (f : Nat) (hf : NT ≤ f) (a2 : Int32) (σ : Sg) : ∀ r n s', J_L_summers f a2 σ = some (r, n, s') → f ≤ n → AMc yL_summers mL_summers [.ref 0, .ref 141, .int a2] f R0 σ (some (.int r), n, R0, s') := fun r n s' e hle => AMc.of (L := [some (.ref 0), some (.ref 141), some (.int a2), none, none, none, none, none, none, none, none]) (by decide) rfl (fun _ => rfl) (fun _ => Nat.le_of_ble_eq_true rfl) hle (fun K => A_L_summers K f hf a2 σ _ e hle)
