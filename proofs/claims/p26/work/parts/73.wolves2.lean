/-! call: wolves; the model, and the sum over all sets of days -/
theorem graK_off {Λ : LT} {s : ST} {b : Nat} (h : sP s b = 36) : ∀ n, sP (graK Λ s n) b = 36
  | 0 => h
  | n + 1 => by
    have ih := graK_off (Λ := Λ) h n
    show sP (graB Λ (graK Λ s n) n) b = 36
    generalize graK Λ s n = s' at ih
    unfold graB
    by_cases e : sP s' n = 36
    · rw [if_pos e]; exact ih
    · have nb : b ≠ n := fun z => e (by rw [← z]; exact ih)
      rw [if_neg e]
      by_cases e2 : sG s' (sP s' n) = 0
      · rw [if_pos e2]
        show (if b = n then _ else sP s' b) = 36
        rw [if_neg nb]; exact ih
      · rw [if_neg e2]; exact ih
theorem wolK_off {Λ : LT} {s : ST} {b : Nat} (h : sP s b = 36) : ∀ k a, sP (wolK Λ s k a) b = 36
  | 0, a => h
  | k + 1, a => by
    unfold wolK
    split
    · split
      · exact wolK_off h k (a + 1)
      · split
        · show (if b = a then 36 else sP s b) = 36
          split
          · rfl
          · exact h
        · exact wolK_off h k (a + 1)
    · exact h
theorem nextS_P {Λ : LT} {s : ST} : sP (nextS Λ s) = sP s := by
  unfold nextS
  split <;> rfl
theorem wvS_off {Λ : LT} {s : ST} {b : Nat} (h : sP s b = 36) (t : Bool) : sP (wvS Λ s t) b = 36 := by
  unfold wvS
  rw [nextS_P]
  cases t
  · exact graK_off h _
  · exact wolK_off (graK_off h _) _ _
theorem stN_off {Λ : LT} {s : ST} {b x : Nat} (h : sP s b = 36) : ∀ m, stN Λ b x m s = 0
  | 0 => by unfold stN; rw [if_pos h]
  | m + 1 => by unfold stN; rw [if_pos h]
def wlG (Λ : LT) (b x z : Nat) : Nat → Nat → ST → Nat → Nat
  | 0, _, s, i => if sP s b = 36 then 0 else i
  | m + 1, k, s, i => wlG Λ b x z m (k + 1) (wvS Λ s (z.testBit k)) (i * (if z.testBit k = true then x else 10 - x))
def wlC (Λ : LT) (b x : Nat) : Nat → ST → Nat → Nat
  | 0, s, _ => if sP s b = 36 then 0 else 1
  | m + 1, s, z => (if decide (z % 2 = 1) = true then x else 10 - x) * wlC Λ b x m (wvS Λ s (decide (z % 2 = 1))) (z / 2)
theorem wlG_C {Λ : LT} {b x z : Nat} : ∀ (m k : Nat) (s : ST) (i : Nat), wlG Λ b x z m k s i = i * wlC Λ b x m s (z / 2 ^ k)
  | 0, k, s, i => by
    unfold wlG wlC
    split
    · rw [Nat.mul_zero]
    · rw [Nat.mul_one]
  | m + 1, k, s, i => by
    have e : z / 2 ^ (k + 1) = z / 2 ^ k / 2 := by rw [Nat.pow_succ, Nat.div_div_eq_div_mul]
    rw [wlG, wlG_C m (k + 1), wlC, Nat.testBit_eq_decide_div_mod_eq, e, Nat.mul_assoc]
def suN (f : Nat → Nat) : Nat → Nat
  | 0 => 0
  | n + 1 => suN f n + f n
theorem suN_two (f : Nat → Nat) : ∀ n, suN f (2 * n) = suN (fun i => f (2 * i) + f (2 * i + 1)) n
  | 0 => rfl
  | n + 1 => by
    show suN f (2 * n + 1 + 1) = suN (fun i => f (2 * i) + f (2 * i + 1)) n + (f (2 * n) + f (2 * n + 1))
    rw [← suN_two f n]
    show suN f (2 * n) + f (2 * n) + f (2 * n + 1) = _
    omega
theorem suN_lin (a c : Nat) (f g : Nat → Nat) : ∀ n, suN (fun i => a * f i + c * g i) n = a * suN f n + c * suN g n
  | 0 => by simp [suN]
  | n + 1 => by
    show suN (fun i => a * f i + c * g i) n + (a * f n + c * g n) = a * (suN f n + f n) + c * (suN g n + g n)
    rw [suN_lin a c f g n, Nat.mul_add, Nat.mul_add]
    omega
theorem suN_ext {f g : Nat → Nat} (h : ∀ i, f i = g i) : ∀ n, suN f n = suN g n
  | 0 => rfl
  | n + 1 => by
    show suN f n + f n = suN g n + g n
    rw [suN_ext h n, h n]
theorem suN_C {Λ : LT} {b x : Nat} : ∀ (m : Nat) (s : ST), suN (wlC Λ b x m s) (2 ^ m) = stN Λ b x m s
  | 0, s => by
    show 0 + wlC Λ b x 0 s 0 = stN Λ b x 0 s
    rw [Nat.zero_add]
    rfl
  | m + 1, s => by
    have e : 2 ^ (m + 1) = 2 * 2 ^ m := by rw [Nat.pow_succ, Nat.mul_comm]
    have p : ∀ i, wlC Λ b x (m + 1) s (2 * i) + wlC Λ b x (m + 1) s (2 * i + 1) = (10 - x) * wlC Λ b x m (wvS Λ s false) i + x * wlC Λ b x m (wvS Λ s true) i := by
      intro i
      have e1 : decide (2 * i % 2 = 1) = false := by simp
      have e2 : decide ((2 * i + 1) % 2 = 1) = true := by simp
      have e3 : 2 * i / 2 = i := by omega
      have e4 : (2 * i + 1) / 2 = i := by omega
      rw [wlC, wlC, e1, e2, e3, e4]
      rfl
    rw [e, suN_two, suN_ext p, suN_lin, suN_C m, suN_C m]
    by_cases h : sP s b = 36
    · rw [stN_off h, stN_off (wvS_off h false), stN_off (wvS_off h true), Nat.mul_zero, Nat.mul_zero]
    · rw [stN, if_neg h]
section WOLVES2
variable {σ : Sg} {D : Nat} {Λ : LT} {s : ST}
theorem shl1 : ∀ n, n < 9 → ((1 : Int32) <<< (nI n &&& 31)) = nI (2 ^ n) := by decide +kernel
theorem pow2_le {n : Nat} (h : n ≤ 8) : 2 ^ n ≤ 256 := Nat.pow_le_pow_right (n := 2) (by decide) h
theorem pow10_le {n : Nat} (h : n ≤ 8) : 10 ^ n ≤ 100000000 := Nat.pow_le_pow_right (n := 10) (by decide) h
theorem jc_wl76 {b x n : Nat} (w : Int32) (hn : n ≤ 8) : ∀ (m k j : Nat), k + m = n → m < j → J_X7_wolves_b76 j (nI b) (nI n) (nI x) w (lN (10 ^ k)) (nI k) σ = (bd2 (J_X0_staying 14 (nI b) (nI n) (nI x) σ) fun r107 s107 => (bd1 (J_X7_commonPart r107 (lN (10 ^ n)) s107) fun r116 => (if 0 ≤ (lg_cmp r116 (1 : Int64)) then (if w = 0 then (if r116 = 0 then none else (some (((r107 / r116).toInt32), s107))) else (if r116 = 0 then none else (some ((((lN (10 ^ n)) / r116).toInt32), s107)))) else (some ((-4 : Int32), s107))))) := by
  intro m
  induction m with
  | zero =>
    intro k j hi hj
    obtain ⟨j, rfl⟩ : ∃ i, j = i + 1 := ⟨j - 1, by omega⟩
    rw [J_X7_wolves_b76, if_pos ((nI_leI (by omega) (by omega)).mpr (by omega)), show k = n by omega]
  | succ m ih =>
    intro k j hi hj
    obtain ⟨j, rfl⟩ : ∃ i, j = i + 1 := ⟨j - 1, by omega⟩
    rw [J_X7_wolves_b76, if_neg (fun z => by have := (nI_leI (by omega) (by omega)).mp z; omega), lN_10, lN_mul, ← Nat.pow_succ, show nI k + (1 : Int32) = nI (k + 1) from by rw [li_1, nI_add]]
    exact ih (k + 1) j (by omega) (by omega)
theorem ahead_wk {σ' : Sg} (f : Fr (fun a => 95 ≤ a ∧ a ≤ 140) σ σ') : Fs Wk σ σ' := f.fs fun a j z => Or.inr (Or.inl ⟨by omega, z.2⟩)
end WOLVES2
