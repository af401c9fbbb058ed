/-! call: wolves; the model, and the sum over all sets of days -/
theorem graK_off {Λ : LT} {s : ST} {b : Nat} (h : sP s b = 36) : ∀ n, sP (graK Λ s n) b = 36
  | 0 => h
  | n + 1 => by
    have ih := graK_off (Λ := Λ) h n
    show sP (graB Λ (graK Λ s n) n) b = 36
    generalize graK Λ s n = s' at ih
    unfold graB
    by_cases e : sP s' n = 36
    · rw [if_pos e]; exact ih
    · have nb : b ≠ n := fun z => e (by rw [← z]; exact ih)
      rw [if_neg e]
      by_cases e2 : sG s' (sP s' n) = 0
      · rw [if_pos e2]
        show (if b = n then _ else sP s' b) = 36
        rw [if_neg nb]; exact ih
      · rw [if_neg e2]; exact ih
theorem wolK_off {Λ : LT} {s : ST} {b : Nat} (h : sP s b = 36) : ∀ k a, sP (wolK Λ s k a) b = 36
  | 0, a => h
  | k + 1, a => by
    unfold wolK
    split
    · split
      · exact wolK_off h k (a + 1)
      · split
        · show (if b = a then 36 else sP s b) = 36
          split
          · rfl
          · exact h
        · exact wolK_off h k (a + 1)
    · exact h
theorem nextS_P {Λ : LT} {s : ST} : sP (nextS Λ s) = sP s := by
  unfold nextS
  split <;> rfl
theorem wvS_off {Λ : LT} {s : ST} {b : Nat} (h : sP s b = 36) (t : Bool) : sP (wvS Λ s t) b = 36 := by
  unfold wvS
  rw [nextS_P]
  cases t
  · exact graK_off h _
  · exact wolK_off (graK_off h _) _ _
theorem stN_off {Λ : LT} {s : ST} {b x : Nat} (h : sP s b = 36) : ∀ m, stN Λ b x m s = 0
  | 0 => by unfold stN; rw [if_pos h]
  | m + 1 => by unfold stN; rw [if_pos h]
def wlG (Λ : LT) (b x z : Nat) : Nat → Nat → ST → Nat → Nat
  | 0, _, s, i => if sP s b = 36 then 0 else i
  | m + 1, k, s, i => wlG Λ b x z m (k + 1) (wvS Λ s (z.testBit k)) (i * (if z.testBit k = true then x else 10 - x))
def wlC (Λ : LT) (b x : Nat) : Nat → ST → Nat → Nat
  | 0, s, _ => if sP s b = 36 then 0 else 1
  | m + 1, s, z => (if decide (z % 2 = 1) = true then x else 10 - x) * wlC Λ b x m (wvS Λ s (decide (z % 2 = 1))) (z / 2)
theorem wlG_C {Λ : LT} {b x z : Nat} : ∀ (m k : Nat) (s : ST) (i : Nat), wlG Λ b x z m k s i = i * wlC Λ b x m s (z / 2 ^ k)
  | 0, k, s, i => by
    unfold wlG wlC
    split
    · rw [Nat.mul_zero]
    · rw [Nat.mul_one]
  | m + 1, k, s, i => by
    have e : z / 2 ^ (k + 1) = z / 2 ^ k / 2 := by rw [Nat.pow_succ, Nat.div_div_eq_div_mul]
    rw [wlG, wlG_C m (k + 1), wlC, Nat.testBit_eq_decide_div_mod_eq, e, Nat.mul_assoc]
def suN (f : Nat → Nat) : Nat → Nat
  | 0 => 0
  | n + 1 => suN f n + f n
theorem suN_two (f : Nat → Nat) : ∀ n, suN f (2 * n) = suN (fun i => f (2 * i) + f (2 * i + 1)) n
  | 0 => rfl
  | n + 1 => by
    show suN f (2 * n + 1 + 1) = suN (fun i => f (2 * i) + f (2 * i + 1)) n + (f (2 * n) + f (2 * n + 1))
    rw [← suN_two f n]
    show suN f (2 * n) + f (2 * n) + f (2 * n + 1) = _
    omega
theorem suN_lin (a c : Nat) (f g : Nat → Nat) : ∀ n, suN (fun i => a * f i + c * g i) n = a * suN f n + c * suN g n
  | 0 => by simp [suN]
  | n + 1 => by
    show suN (fun i => a * f i + c * g i) n + (a * f n + c * g n) = a * (suN f n + f n) + c * (suN g n + g n)
    rw [suN_lin a c f g n, Nat.mul_add, Nat.mul_add]
    omega
theorem suN_ext {f g : Nat → Nat} (h : ∀ i, f i = g i) : ∀ n, suN f n = suN g n
  | 0 => rfl
  | n + 1 => by
    show suN f n + f n = suN g n + g n
    rw [suN_ext h n, h n]
theorem suN_C {Λ : LT} {b x : Nat} : ∀ (m : Nat) (s : ST), suN (wlC Λ b x m s) (2 ^ m) = stN Λ b x m s
  | 0, s => by
    show 0 + wlC Λ b x 0 s 0 = stN Λ b x 0 s
    rw [Nat.zero_add]
    rfl
  | m + 1, s => by
    have e : 2 ^ (m + 1) = 2 * 2 ^ m := by rw [Nat.pow_succ, Nat.mul_comm]
    have p : ∀ i, wlC Λ b x (m + 1) s (2 * i) + wlC Λ b x (m + 1) s (2 * i + 1) = (10 - x) * wlC Λ b x m (wvS Λ s false) i + x * wlC Λ b x m (wvS Λ s true) i := by
      intro i
      have e1 : decide (2 * i % 2 = 1) = false := by simp
      have e2 : decide ((2 * i + 1) % 2 = 1) = true := by simp
      have e3 : 2 * i / 2 = i := by omega
      have e4 : (2 * i + 1) / 2 = i := by omega
      rw [wlC, wlC, e1, e2, e3, e4]
      rfl
    rw [e, suN_two, suN_ext p, suN_lin, suN_C m, suN_C m]
    by_cases h : sP s b = 36
    · rw [stN_off h, stN_off (wvS_off h false), stN_off (wvS_off h true), Nat.mul_zero, Nat.mul_zero]
    · rw [stN, if_neg h]
section WOLVES2
variable {σ : Sg} {D : Nat} {Λ : LT} {s : ST}
theorem jm_wl106 (y88 : Int32 → Int32 → Int32 → Int32 → Int32 → Int32 → Int32 → Sg → Option (Int32 × Sg)) {b x n z a : Nat} (x4 x6 : Int32) (hb : b < lNb Λ) (hx : x ≤ 10) (hn : n ≤ 8) (hz : z < 256) : ∀ (m k j : Nat) (s : ST) (i : Nat) (σ : Sg), k + m = n → m < j → sD s + m < 2 ^ 28 → MS σ Λ s → ∃ σ', J_X8_wolves_b106 y88 j (nI b) (nI n) (nI x) x4 (nI a) x6 (nI z) (nI i) (nI k) σ = y88 (nI b) (nI n) (nI x) x4 (nI (a + wlG Λ b x z m k s i)) x6 (nI (z + 1)) σ' ∧ Fs Wt σ σ' := by
  intro m
  induction m with
  | zero =>
    intro k j s i σ hi hj hd h
    obtain ⟨j, rfl⟩ : ∃ i, j = i + 1 := ⟨j - 1, by omega⟩
    have p36 := SOK.p36 h.2.2.1 h.2.2.2 hb
    have h8 := h.nb8
    refine ⟨σ, ?_, Fs.rf⟩
    rw [J_X8_wolves_b106, if_pos ((nI_leI (by omega) (by omega)).mpr (by omega)), show (37 : Int32) + nI b = nI (37 + b) from by rw [li_37, nI_add], if_pos ((inb_nI (by omega)).mpr (by omega)), nI_clamp (n := 37 + b) (by omega), h.pl hb, wlG, show nI z + (1 : Int32) = nI (z + 1) from by rw [li_1, nI_add]]
    by_cases e : sP s b = 36
    · rw [if_pos (neq li_36 e), if_pos e, ad0] <;> rfl
    · rw [if_neg (nne li_36 (by omega) (by omega) e), if_neg e, nI_add]
  | succ m ih =>
    intro k j s i σ hi hj hd h
    obtain ⟨j, rfl⟩ : ∃ i, j = i + 1 := ⟨j - 1, by omega⟩
    rw [J_X8_wolves_b106, if_neg (fun z => by have := (nI_leI (by omega) (by omega)).mp z; omega), jm_has σ hz (by omega), bd1_s, wlG]
    obtain ⟨σ1, r1, r2, r3⟩ := jm_graze h
    have go : ∀ w : Nat, (if z.testBit k = true then x else 10 - x) = w → ∃ σ', J_X8_wolves_b132 y88 (fun x1 x2 x3 x4 x5 x6 x7 x8 x9 σ => J_X8_wolves_b106 y88 j x1 x2 x3 x4 x5 x6 x7 x8 x9 σ) (nI b) (nI n) (nI x) x4 (nI a) x6 (nI z) (nI k) (nI w) (nI i) σ = y88 (nI b) (nI n) (nI x) x4 (nI (a + wlG Λ b x z m (k + 1) (wvS Λ s (z.testBit k)) (i * (if z.testBit k = true then x else 10 - x)))) x6 (nI (z + 1)) σ' ∧ Fs Wt σ σ' := by
      intro w hw
      rw [hw]
      unfold J_X8_wolves_b132
      rw [r1, bd2_s, jm_has σ1 hz (by omega), bd1_s, nI_mul, show nI k + (1 : Int32) = nI (k + 1) from by rw [li_1, nI_add]]
      cases t : z.testBit k
      · rw [if_neg (show ¬ false = true by decide), if_pos z00]
        obtain ⟨σ2, t1, t2, t3⟩ := jm_nextDay r2 (by rw [graS_D]; omega)
        obtain ⟨σ3, y1, y2⟩ := ih (k + 1) j (wvS Λ s false) (i * w) σ2 (by omega) (by omega) (by rw [wvS_D]; omega) t2
        refine ⟨σ3, ?_, (r3.wt.tr t3.wt).tr y2⟩
        rw [t1, bd2_s]
        exact y1
      · rw [if_pos (show true = true from rfl), if_neg n10]
        obtain ⟨σ4, v1, v2, v3⟩ := jm_wolf r2
        have dd : sD (wolS Λ (graS Λ s)) = sD s := by unfold wolS; rw [wolK_D, graS_D]
        obtain ⟨σ2, t1, t2, t3⟩ := jm_nextDay v2 (by rw [dd]; omega)
        obtain ⟨σ3, y1, y2⟩ := ih (k + 1) j (wvS Λ s true) (i * w) σ2 (by omega) (by omega) (by rw [wvS_D]; omega) t2
        refine ⟨σ3, ?_, (r3.wt.tr (v3.wt.tr t3.wt)).tr y2⟩
        rw [v1, bd2_s, t1, bd2_s]
        exact y1
    cases t : z.testBit k
    · rw [t] at go
      rw [if_neg (show ¬ false = true by decide), if_pos z00, li_10, nI_subI hx]
      exact go (10 - x) (if_neg (by decide))
    · rw [t] at go
      rw [if_pos (show true = true from rfl), if_neg n10]
      exact go x (if_pos rfl)
theorem shl1 : ∀ n, n < 9 → ((1 : Int32) <<< (nI n &&& 31)) = nI (2 ^ n) := by decide +kernel
theorem pow2_le {n : Nat} (h : n ≤ 8) : 2 ^ n ≤ 256 := Nat.pow_le_pow_right (n := 2) (by decide) h
theorem pow10_le {n : Nat} (h : n ≤ 8) : 10 ^ n ≤ 100000000 := Nat.pow_le_pow_right (n := 10) (by decide) h
theorem jm_wl88 {b x n : Nat} (x4 x6 : Int32) (hb : b < lNb Λ) (hx : x ≤ 10) (hn : n ≤ 8) (hΛ : LOK Λ) (hs : SOK Λ s) (hd : sD s + 8 < 2 ^ 28) : ∀ (m z j a : Nat) (σ : Sg), z + m = 2 ^ n → m < j → a = suN (fun z => wlG Λ b x z n 0 s 1) z → LM σ Λ → MM σ 146 0 Λ s → ∃ σ', J_X8_wolves_b88 j (nI b) (nI n) (nI x) x4 (nI a) x6 (nI z) σ = (bd1 (J_X8_lowest (nI (suN (fun z => wlG Λ b x z n 0 s 1) (2 ^ n))) x6 x4 σ') fun r200 => some (r200, σ')) ∧ Fs Wt σ σ' := by
  have p2 := pow2_le hn
  intro m
  induction m with
  | zero =>
    intro z j a σ hi hj ha hL hM
    obtain ⟨j, rfl⟩ : ∃ i, j = i + 1 := ⟨j - 1, by omega⟩
    refine ⟨σ, ?_, Fs.rf⟩
    rw [J_X8_wolves_b88, shl1 n (by omega), if_pos ((nI_leI (by omega) (by omega)).mpr (by omega)), ha, show z = 2 ^ n by omega]
  | succ m ih =>
    intro z j a σ hi hj ha hL hM
    obtain ⟨j, rfl⟩ : ∃ i, j = i + 1 := ⟨j - 1, by omega⟩
    obtain ⟨σ1, r1, r2, r3⟩ := jm_asItIs hL hΛ hs hM
    obtain ⟨σ2, t1, t2⟩ := jm_wl106 (fun x1 x2 x3 x4 x5 x6 x7 σ => J_X8_wolves_b88 j x1 x2 x3 x4 x5 x6 x7 σ) (a := a) (z := z) x4 x6 hb hx hn (by omega) n 0 FU s 1 σ1 (by omega) (by rw [FU_eq]; omega) (by omega) r2
    have f := r3.tr t2
    obtain ⟨σ3, y1, y2⟩ := ih (z + 1) j (a + wlG Λ b x z n 0 s 1) σ2 (by omega) (by omega) (by rw [ha]; rfl) (hL.wt f) (hM.frs hΛ f fun j z1 z2 w => by
      have w' : (146 = 157) ∨ (146 = 141 ∧ j = 32) := w
      omega)
    refine ⟨σ3, ?_, f.tr y2⟩
    rw [J_X8_wolves_b88, shl1 n (by omega), if_neg (fun z => by have := (nI_leI (by omega) (by omega)).mp z; omega), r1, bd2_s, show J_X8_wolves_b106 (fun x1 x2 x3 x4 x5 x6 x7 σ => J_X8_wolves_b88 j x1 x2 x3 x4 x5 x6 x7 σ) FU (nI b) (nI n) (nI x) x4 (nI a) x6 (nI z) 1 0 σ1 = _ from t1]
    exact y1
theorem jm_wl66 {b x n : Nat} (x4 : Int32) (hn : n ≤ 8) : ∀ (m k j : Nat), k + m = n → m < j → J_X8_wolves_b66 j (nI b) (nI n) (nI x) x4 0 (nI (10 ^ k)) (nI k) σ = J_X8_wolves_b88 FU (nI b) (nI n) (nI x) x4 0 (nI (10 ^ n)) 0 σ := by
  intro m
  induction m with
  | zero =>
    intro k j hi hj
    obtain ⟨j, rfl⟩ : ∃ i, j = i + 1 := ⟨j - 1, by omega⟩
    rw [J_X8_wolves_b66, if_pos ((nI_leI (by omega) (by omega)).mpr (by omega)), show k = n by omega]
  | succ m ih =>
    intro k j hi hj
    obtain ⟨j, rfl⟩ : ∃ i, j = i + 1 := ⟨j - 1, by omega⟩
    rw [J_X8_wolves_b66, if_neg (fun z => by have := (nI_leI (by omega) (by omega)).mp z; omega), li_10, nI_mul, ← Nat.pow_succ, show nI k + (1 : Int32) = nI (k + 1) from by rw [li_1, nI_add]]
    exact ih (k + 1) j (by omega) (by omega)
theorem jc_wl76 {b x n : Nat} (w : Int32) (hn : n ≤ 8) : ∀ (m k j : Nat), k + m = n → m < j → J_X7_wolves_b76 j (nI b) (nI n) (nI x) w (lN (10 ^ k)) (nI k) σ = (bd2 (J_X0_staying 14 (nI b) (nI n) (nI x) σ) fun r107 s107 => (bd1 (J_X7_commonPart r107 (lN (10 ^ n)) s107) fun r116 => (if 0 ≤ (lg_cmp r116 (1 : Int64)) then (if w = 0 then (if r116 = 0 then none else (some (((r107 / r116).toInt32), s107))) else (if r116 = 0 then none else (some ((((lN (10 ^ n)) / r116).toInt32), s107)))) else (some ((-4 : Int32), s107))))) := by
  intro m
  induction m with
  | zero =>
    intro k j hi hj
    obtain ⟨j, rfl⟩ : ∃ i, j = i + 1 := ⟨j - 1, by omega⟩
    rw [J_X7_wolves_b76, if_pos ((nI_leI (by omega) (by omega)).mpr (by omega)), show k = n by omega]
  | succ m ih =>
    intro k j hi hj
    obtain ⟨j, rfl⟩ : ∃ i, j = i + 1 := ⟨j - 1, by omega⟩
    rw [J_X7_wolves_b76, if_neg (fun z => by have := (nI_leI (by omega) (by omega)).mp z; omega), lN_10, lN_mul, ← Nat.pow_succ, show nI k + (1 : Int32) = nI (k + 1) from by rw [li_1, nI_add]]
    exact ih (k + 1) j (by omega) (by omega)
theorem jc_level0 (h1 : PsiL σ Λ) (h2 : PsiN D σ Λ s) : ∃ σ1, J_X2_copyFrom 95 14 σ = some ((), σ1) ∧ CC σ1 95 Λ s ∧ Fr (fun a => 95 ≤ a ∧ a ≤ 140) σ σ1 := by
  obtain ⟨σ1, r1, r2, r3⟩ := jc_like (c := 95) (h2.cc h1) rfl rfl (by decide) (by decide)
  exact ⟨σ1, r1, r2, r3.mono fun a z => ⟨z.1, by omega⟩⟩
theorem ahead_wk {σ' : Sg} (f : Fr (fun a => 95 ≤ a ∧ a ≤ 140) σ σ') : Fs Wk σ σ' := f.fs fun a j z => Or.inr (Or.inl ⟨by omega, z.2⟩)
theorem cl_wolves (h : Psi D σ) (hD : D < 2 ^ 20) (a b c d : Int32) : ∃ r σ1 σ2, J_X7_wolves a b c d σ = some (r, σ1) ∧ J_X8_wolves a b c d σ1 = some (r, σ2) ∧ Psi D σ2 := by
  have h0 := h
  obtain ⟨Λ, s, n, o, P, T, q, K, t, h1, h2, -, -, -⟩ := h
  have hΛ := h1.2.2
  have n8 := hΛ.2.2.1
  have hc := h2.cc h1
  have hd := h2.2.2.2
  have no : J_X7_wolves a b c d σ = J_X7_wolves_b36 a b c d 0 σ → J_X8_wolves a b c d σ = some (-1, σ) → ∃ r σ1 σ2, J_X7_wolves a b c d σ = some (r, σ1) ∧ J_X8_wolves a b c d σ1 = some (r, σ2) ∧ Psi D σ2 := by
    intro z1 z2
    refine ⟨-1, σ, σ, ?_, z2, h0⟩
    rw [z1]
    unfold J_X7_wolves_b36
    rw [if_pos z00]
  rcases i_cases a (show lNb Λ < 2 ^ 31 by omega) with ⟨x, hx, rfl⟩ | ha
  · have c0 : J_X1_hasBeast 1 (nI x) σ = some 1 := jl_hasBeast h1.1.2.2.1 n8.2 hx
    have m0 := jm_isBeast (σ := σ) h1.2.1.2.2.1 n8.2 hx
    rcases i_cases b (show 9 < 2 ^ 31 by decide) with ⟨m, hm, rfl⟩ | hb
    · have nm : ∀ σ, J_X8_in (nI m) 0 8 σ = some 1 := fun σ => jm_in1 (lo := 0) (hi := 8) (by omega) (by omega) (by omega)
      have c1 : ¬ (8 : Int32) < nI m := by rw [li_8, nI_ltI (by omega) (by omega)]; omega
      rcases i_cases c (show 11 < 2 ^ 31 by decide) with ⟨y, hy, rfl⟩ | hc2
      · have ny : ∀ σ, J_X8_in (nI y) 0 10 σ = some 1 := fun σ => jm_in1 (lo := 0) (hi := 10) (by omega) (by omega) (by omega)
        have c2 : ¬ (10 : Int32) < nI y := by rw [li_10, nI_ltI (by omega) (by omega)]; omega
        have e36 : J_X7_wolves (nI x) (nI m) (nI y) d σ = J_X7_wolves_b36 (nI x) (nI m) (nI y) d 1 σ := by
          unfold J_X7_wolves
          rw [c0, bd1_s, if_neg n10, if_neg (nI_nlt0 (by omega)), if_neg c1, if_neg (nI_nlt0 (by omega)), if_neg c2]
        rw [e36]
        unfold J_X7_wolves_b36
        rw [if_neg n10]
        rcases i_cases d (show 2 < 2 ^ 31 by decide) with ⟨w, hw, rfl⟩ | hd2
        · have ww := what1 (show w ≤ 1 by omega)
          have p36 := SOK.p36 hΛ h2.2.2.1 hx
          rw [if_neg ww.1, if_pos ww.2, jc_isOff hc hx, bd1_s]
          by_cases e : sP s x = 36
          · have hp := h2.2.1.2.2.1 x hx
            rw [Nat.zero_add] at hp
            rw [if_pos e, if_neg n10]
            refine ⟨_, _, σ, rfl, ?_, h0⟩
            unfold J_X8_wolves
            rw [m0, bd1_s, if_neg n10, nm, bd1_s, if_neg n10, ny, bd1_s, if_neg n10, in01 (by omega), bd1_s, if_neg n10, show (37 : Int32) + nI x = nI (37 + x) from by rw [li_37, nI_add], if_pos ((inb_nI (by omega)).mpr (by omega)), nI_clamp (n := 37 + x) (by omega), hp, if_pos (neq li_36 e)]
          · rw [if_neg e, if_pos z00]
            have B := pow10_le (show m ≤ 8 by omega)
            have B0 : 0 < 10 ^ m := Nat.pow_pos (by decide)
            have A := stN_le (Λ := Λ) (b := x) (x := y) (by omega) m s
            obtain ⟨σ1, r1, r2, r3⟩ := jc_level0 h1 h2
            obtain ⟨σ2, t1, t2⟩ := jc_stay (n := m) (b := x) (x := y) hx (by omega) (by omega) m 0 FR s σ1 (by omega) (show m < 12 by omega) (by omega) r2
            have f2 := ahead_wk (r3.tr (t2.mono fun a z => by have z' : 95 + 4 < a ∧ a ≤ 140 := z; omega))
            have g1 := h1.fr f2
            have g2 := h2.fr hΛ f2
            have hp := g2.2.1.2.2.1 x hx
            rw [Nat.zero_add] at hp
            obtain ⟨σ3, y1, y2⟩ := jm_wl88 (n := m) (b := x) (x := y) (nI w) (nI (10 ^ m)) hx (by omega) (by omega) hΛ h2.2.2.1 (by omega) (2 ^ m) 0 FU 0 σ2 (by omega) (by have := pow2_le (show m ≤ 8 by omega); rw [FU_eq]; omega) rfl g1.2.1 g2.2.1
            have su : suN (fun z => wlG Λ x y z m 0 s 1) (2 ^ m) = stN Λ x y m s := by
              rw [← suN_C m s]
              exact suN_ext (fun i => by rw [wlG_C, Nat.one_mul, Nat.pow_zero, Nat.div_one]) _
            rw [su] at y1
            generalize hA : stN Λ x y m s = A' at A t1 y1
            generalize hB : 10 ^ m = B' at A B B0 y1
            have gd := Nat.gcd_pos_of_pos_right A' B0
            have gl := Nat.le_of_dvd B0 (Nat.gcd_dvd_right A' B')
            have cg : J_X7_commonPart (lN A') (lN B') σ2 = some (lN (Nat.gcd A' B')) := j7_gcd (σ := σ2) 27 FU 0 A' B' (by omega) (by decide) (by rw [FU_eq]; decide) (by omega) (by omega)
            have mg : J_X8_lowest (nI A') (nI B') (nI w) σ3 = some ((if nI w = 0 then nI A' else nI B') / nI (Nat.gcd A' B')) := j8_gcd (σ := σ3) (nI A') (nI B') (nI w) 27 FU A' B' (by omega) (by rw [FU_eq]; decide) (by omega) (by omega) gd (by omega)
            generalize Nat.gcd A' B' = G at gd gl cg mg
            have gn : ¬ lN G = 0 := fun z => by have z2 : lN G = lN 0 := z; have := (lN_eq (by omega) (by omega)).mp z2; omega
            refine ⟨if nI w = 0 then nI (A' / G) else nI (B' / G), σ2, σ3, ?_, ?_, h0.fr (f2.tr y2.wk)⟩
            · rw [show J_X7_wolves_b76 FU (nI x) (nI m) (nI y) (nI w) 1 0 σ = _ from jc_wl76 (nI w) (by omega) m 0 FU (by omega) (by rw [FU_eq]; omega)]
              unfold J_X0_staying
              rw [show J_X4_get 94 0 σ = some 95 from rfl, bd1_s, r1, bd2_s, show J_X0_stayingFrom FR 0 (nI x) (nI m) (nI y) σ1 = _ from t1, bd2_s, bd2_s, hB, cg, bd1_s, if_pos ((lg_cmp_ge _ _).mpr (by rw [lN_e1]; exact (lN_le (by omega) (by omega)).mpr gd)), if_neg gn, if_neg gn, lN_div (by omega) (by omega), lN_div (by omega) (by omega), lN_i, lN_i]
              by_cases w0 : nI w = 0
              · rw [if_pos w0, if_pos w0]
              · rw [if_neg w0, if_neg w0]
            · unfold J_X8_wolves
              rw [jm_isBeast g1.2.1.2.2.1 n8.2 hx, bd1_s, if_neg n10, nm, bd1_s, if_neg n10, ny, bd1_s, if_neg n10, in01 (by omega), bd1_s, if_neg n10, show (37 : Int32) + nI x = nI (37 + x) from by rw [li_37, nI_add], if_pos ((inb_nI (by omega)).mpr (by omega)), nI_clamp (n := 37 + x) (by omega), hp, if_neg (nne li_36 (by omega) (by omega) e), show J_X8_wolves_b66 FU (nI x) (nI m) (nI y) (nI w) 0 1 0 σ2 = _ from jm_wl66 (nI w) (by omega) m 0 FU (by omega) (by rw [FU_eq]; omega), hB, show J_X8_wolves_b88 FU (nI x) (nI m) (nI y) (nI w) 0 (nI B') 0 σ2 = _ from y1, mg, bd1_s]
              by_cases w0 : nI w = 0
              · rw [if_pos w0, if_pos w0, nI_div (by omega) (by omega)]
              · rw [if_neg w0, if_neg w0, nI_div (by omega) (by omega)]
        · refine ⟨-1, σ, σ, ?_, ?_, h0⟩
          · rcases hd2 with z | z
            · rw [if_pos z]
            · rw [if_neg (what0 z).1, if_neg (what0 z).2]
          · unfold J_X8_wolves
            rw [m0, bd1_s, if_neg n10, nm, bd1_s, if_neg n10, ny, bd1_s, if_neg n10, in01_0 hd2, bd1_s, if_pos z00]
      · refine no ?_ ?_
        · unfold J_X7_wolves
          rw [c0, bd1_s, if_neg n10, if_neg (nI_nlt0 (by omega)), if_neg c1]
          rcases hc2 with z | z
          · rw [if_pos z]
          · rw [if_neg (ge_n0 (by decide) z), if_pos (show (10 : Int32) < c from ge_lt (m := 10) (n := 11) (by decide) (by decide) z)]
        · unfold J_X8_wolves
          rw [m0, bd1_s, if_neg n10, nm, bd1_s, if_neg n10, show J_X8_in c 0 10 σ = some 0 from jm_in0 (lo := 0) (hi := 10) (n := 11) (by decide) (by decide) (by decide) hc2, bd1_s, if_pos z00]
    · refine no ?_ ?_
      · unfold J_X7_wolves
        rw [c0, bd1_s, if_neg n10]
        rcases hb with z | z
        · rw [if_pos z]
        · rw [if_neg (ge_n0 (by decide) z), if_pos (show (8 : Int32) < b from ge_lt (m := 8) (n := 9) (by decide) (by decide) z)]
      · unfold J_X8_wolves
        rw [m0, bd1_s, if_neg n10, show J_X8_in b 0 8 σ = some 0 from jm_in0 (lo := 0) (hi := 8) (n := 9) (by decide) (by decide) (by decide) hb, bd1_s, if_pos z00]
  · refine no ?_ ?_
    · unfold J_X7_wolves
      rw [jl_hasBeast0 h1.1.2.2.1 ha, bd1_s, if_pos z00]
    · unfold J_X8_wolves
      rw [jm_isBeast0 h1.2.1.2.2.1 n8.1 n8.2 ha, bd1_s, if_pos z00]
end WOLVES2
