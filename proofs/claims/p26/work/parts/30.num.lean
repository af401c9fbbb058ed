/-! numbers: what the small ints of the system are -/
theorem li_0 : (0 : Int32) = nI 0 := rfl
theorem li_1 : (1 : Int32) = nI 1 := rfl
theorem li_2 : (2 : Int32) = nI 2 := rfl
theorem li_3 : (3 : Int32) = nI 3 := rfl
theorem li_4 : (4 : Int32) = nI 4 := rfl
theorem li_5 : (5 : Int32) = nI 5 := rfl
theorem li_6 : (6 : Int32) = nI 6 := rfl
theorem li_8 : (8 : Int32) = nI 8 := rfl
theorem li_9 : (9 : Int32) = nI 9 := rfl
theorem li_10 : (10 : Int32) = nI 10 := rfl
theorem li_12 : (12 : Int32) = nI 12 := rfl
theorem li_36 : (36 : Int32) = nI 36 := rfl
theorem li_37 : (37 : Int32) = nI 37 := rfl
theorem li_45 : (45 : Int32) = nI 45 := rfl
theorem li_53 : (53 : Int32) = nI 53 := rfl
theorem li_54 : (54 : Int32) = nI 54 := rfl
theorem li_60 : (60 : Int32) = nI 60 := rfl
theorem li_72 : (72 : Int32) = nI 72 := rfl
theorem li_99 : (99 : Int32) = nI 99 := rfl
theorem li_100 : (100 : Int32) = nI 100 := rfl
theorem li_200 : (200 : Int32) = nI 200 := rfl
theorem inb_nI {i n : Nat} (h : i < 2 ^ 31) : inb (nI i) n = true ↔ i < n := by
  simp only [inb, Bool.and_eq_true, decide_eq_true_eq, nI_clamp h]
  exact ⟨fun z => z.2, fun z => ⟨nI_pos' h, z⟩⟩
theorem nI_inj {a b : Nat} (ha : a < 2 ^ 31) (hb : b < 2 ^ 31) : nI a = nI b ↔ a = b := nI_eq ha hb
theorem nI_ge0 {a : Nat} (h : a < 2 ^ 31) : (0 : Int32) ≤ nI a := nI_pos' h
theorem nI_nlt0 {a : Nat} (h : a < 2 ^ 31) : ¬ nI a < 0 := nI_pos h
theorem nI_nem4 {a : Nat} (h : a < 2 ^ 31) : ¬ nI a = (-4 : Int32) := fun e => nI_pos h (by rw [e]; decide)
theorem m4_ne {a : Nat} (h : a < 2 ^ 31) : ¬ (-4 : Int32) = nI a := fun e => nI_nem4 h e.symm
theorem nI_subI {a b : Nat} (h : b ≤ a) : nI a - nI b = nI (a - b) := by
  have e : nI a = nI (a - b) + nI b := by rw [nI_add]; congr 1; omega
  rw [e]
  exact Int32.add_sub_cancel _ _
theorem nI_mul (a b : Nat) : nI a * nI b = nI (a * b) := (Int32.ofNat_mul a b).symm
theorem nI_div {a b : Nat} (ha : a < 2 ^ 31) (hb : b < 2 ^ 31) : nI a / nI b = nI (a / b) := by
  apply Int32.toInt_inj.mp
  rw [Int32.toInt_div, nI_toInt ha, nI_toInt hb, nI_toInt (Nat.lt_of_le_of_lt (Nat.div_le_self a b) ha)]
  have h1 : ((a : Int).tdiv (b : Int)) = ((a / b : Nat) : Int) := by
    rw [Int.tdiv_eq_ediv_of_nonneg (Int.natCast_nonneg a)]
    rfl
  rw [h1]
  have h2 := Nat.div_le_self a b
  generalize a / b = q at h2
  exact Int.bmod_eq_of_le (by omega) (by omega)
theorem rmI_nI {a b : Nat} (ha : a < 2 ^ 31) (hb : b < 2 ^ 31) : rmI (nI a) (nI b) = nI (a % b) := by
  unfold rmI
  rw [nI_div ha hb, nI_mul, nI_subI (by rw [Nat.mul_comm]; exact Nat.mul_div_le a b)]
  congr 1
  have := Nat.div_add_mod a b
  rw [Nat.mul_comm]
  omega
/-! stores -/
theorem up_s {σ : Sg} {c k : Nat} {v : Int32} : up σ c k v c k = v := by simp [up]
theorem up_n {σ : Sg} {c k a j : Nat} {v : Int32} (h : a ≠ c) : up σ c k v a j = σ a j := by simp [up, h]
theorem up_i {σ : Sg} {c k j : Nat} {v : Int32} (h : j ≠ k) : up σ c k v c j = σ c j := by simp [up, h]
theorem upc_s {σ : Sg} {c d j : Nat} : upc σ c d c j = σ d j := by simp [upc]
theorem upc_n {σ : Sg} {c d a j : Nat} (h : a ≠ c) : upc σ c d a j = σ a j := by simp [upc, h]
/-- all cells but those stay -/
def Fr (P : Nat → Prop) (σ σ' : Sg) : Prop := ∀ a, ¬ P a → σ' a = σ a
theorem Fr.rf {P : Nat → Prop} {σ : Sg} : Fr P σ σ := fun _ _ => rfl
theorem Fr.tr {P : Nat → Prop} {σ σ' σ'' : Sg} (h : Fr P σ σ') (h' : Fr P σ' σ'') : Fr P σ σ'' := fun a ha => (h' a ha).trans (h a ha)
theorem Fr.mono {P Q : Nat → Prop} {σ σ' : Sg} (h : Fr P σ σ') (hPQ : ∀ a, P a → Q a) : Fr Q σ σ' := fun a ha => h a (fun z => ha (hPQ a z))
theorem Fr.up {P : Nat → Prop} {σ σ' : Sg} {c k : Nat} {v : Int32} (h : Fr P σ σ') (hc : P c) : Fr P σ (up σ' c k v) := fun a ha => by
  rw [up_ne (fun e => ha (by rw [e]; exact hc))]
  exact h a ha
theorem Fr.upc {P : Nat → Prop} {σ σ' : Sg} {c d : Nat} (h : Fr P σ σ') (hc : P c) : Fr P σ (upc σ' c d) := fun a ha => by
  have e : a ≠ c := fun e => ha (by rw [e]; exact hc)
  funext j
  rw [upc_n e, h a ha]
theorem bd1_s {α β : Type} {a : α} {k : α → Option β} : bd1 (some a) k = k a := rfl
theorem bd2_s {α γ β : Type} {a : α} {b : γ} {k : α → γ → Option β} : bd2 (some (a, b)) k = k a b := rfl
