/-! constructors' walks: references by time, states by time, facts -/
/-- the references in the order in which they are set -/
def asl : List (Nat × Nat × Nat) := [(1, 7, 2), (1, 8, 3), (0, 0, 1), (4, 0, 5), (6, 7, 7), (6, 8, 8), (4, 1, 6), (9, 1, 10), (9, 2, 11), (9, 3, 12), (9, 4, 13), (9, 0, 6), (4, 2, 9), (0, 1, 4), (14, 1, 15), (14, 2, 16), (14, 3, 17), (14, 4, 18), (14, 0, 1), (0, 2, 14), (19, 1, 20), (19, 2, 21), (19, 3, 22), (19, 4, 23), (19, 0, 1), (0, 3, 19), (24, 2, 25), (24, 0, 1), (27, 1, 28), (27, 2, 29), (27, 3, 30), (27, 4, 31), (27, 0, 1), (26, 0, 27), (26, 1, 32), (32, 0, 27), (33, 1, 34), (33, 2, 35), (33, 3, 36), (33, 4, 37), (33, 0, 1), (32, 1, 33), (38, 1, 39), (38, 2, 40), (38, 3, 41), (38, 4, 42), (38, 0, 1), (32, 2, 38), (43, 1, 44), (43, 2, 45), (43, 3, 46), (43, 4, 47), (43, 0, 1), (32, 3, 43), (48, 1, 49), (48, 2, 50), (48, 3, 51), (48, 4, 52), (48, 0, 1), (32, 4, 48), (53, 1, 54), (53, 2, 55), (53, 3, 56), (53, 4, 57), (53, 0, 1), (32, 5, 53), (58, 1, 59), (58, 2, 60), (58, 3, 61), (58, 4, 62), (58, 0, 1), (32, 6, 58), (63, 1, 64), (63, 2, 65), (63, 3, 66), (63, 4, 67), (63, 0, 1), (32, 7, 63), (24, 1, 26), (0, 4, 24), (69, 1, 70), (69, 2, 71), (69, 3, 72), (69, 4, 73), (69, 0, 1), (68, 0, 69), (68, 1, 74), (74, 0, 69), (75, 1, 76), (75, 2, 77), (75, 3, 78), (75, 4, 79), (75, 0, 1), (74, 1, 75), (0, 5, 68), (80, 1, 81), (80, 2, 82), (80, 3, 83), (80, 4, 84), (80, 5, 85), (80, 6, 86), (87, 1, 88), (87, 2, 89), (87, 3, 90), (87, 4, 91), (87, 0, 1), (80, 0, 87), (0, 6, 80), (92, 2, 93), (92, 0, 1), (95, 1, 96), (95, 2, 97), (95, 3, 98), (95, 4, 99), (95, 0, 1), (94, 0, 95), (94, 1, 100), (100, 0, 95), (101, 1, 102), (101, 2, 103), (101, 3, 104), (101, 4, 105), (101, 0, 1), (100, 1, 101), (106, 1, 107), (106, 2, 108), (106, 3, 109), (106, 4, 110), (106, 0, 1), (100, 2, 106), (111, 1, 112), (111, 2, 113), (111, 3, 114), (111, 4, 115), (111, 0, 1), (100, 3, 111), (116, 1, 117), (116, 2, 118), (116, 3, 119), (116, 4, 120), (116, 0, 1), (100, 4, 116), (121, 1, 122), (121, 2, 123), (121, 3, 124), (121, 4, 125), (121, 0, 1), (100, 5, 121), (126, 1, 127), (126, 2, 128), (126, 3, 129), (126, 4, 130), (126, 0, 1), (100, 6, 126), (131, 1, 132), (131, 2, 133), (131, 3, 134), (131, 4, 135), (131, 0, 1), (100, 7, 131), (136, 1, 137), (136, 2, 138), (136, 3, 139), (136, 4, 140), (136, 0, 1), (100, 8, 136), (92, 1, 94), (0, 7, 92)]
def Rt : Nat → Rg
  | 0 => fun _ _ => none
  | τ + 1 => match asl[τ]? with
    | some (c, k, d) => upr (Rt τ) c k (some d)
    | none => Rt τ
theorem rt_s {τ c k d : Nat} (ha : asl[τ]? = some (c, k, d)) : upr (Rt τ) c k (some d) = Rt (τ + 1) := by
  show _ = (match asl[τ]? with
    | some (c, k, d) => upr (Rt τ) c k (some d)
    | none => Rt τ)
  rw [ha]
theorem rt_fresh {n : Nat} : ∀ {τ : Nat}, (∀ x ∈ asl.take τ, x.1 < n) → ∀ k, Rt τ n k = none
  | 0, _, _ => rfl
  | τ + 1, h, k => by
    have ih := rt_fresh (τ := τ) (n := n) (fun x hx => h x (List.mem_of_mem_take (i := τ) (by rw [List.take_take, Nat.min_eq_left (Nat.le_succ τ)]; exact hx))) k
    show (match asl[τ]? with
      | some (c, k, d) => upr (Rt τ) c k (some d)
      | none => Rt τ) n k = none
    cases e : asl[τ]? with
    | none => exact ih
    | some p =>
      obtain ⟨c, k', d⟩ := p
      have hm : (c, k', d) ∈ asl.take (τ + 1) := List.mem_of_getElem? (i := τ) (by rw [List.getElem?_take_of_lt (Nat.lt_succ_self τ)]; exact e)
      have := h _ hm
      show (if n = c ∧ k = k' then some d else Rt τ n k) = none
      rw [if_neg (fun z => by have : c < n := this; omega)]
      exact ih
theorem al3 {a b c : Cond} (ha : a ∈ wT) (hb : b ∈ wT) (hc : c ∈ wT) : ∀ w ∈ ([a, b, c] : List Cond), w ∈ wT := by
  simp only [List.forall_mem_cons]
  exact ⟨ha, hb, hc, fun _ h => absurd h List.not_mem_nil⟩
theorem al4 {a b c d : Cond} (ha : a ∈ wT) (hb : b ∈ wT) (hc : c ∈ wT) (hd : d ∈ wT) : ∀ w ∈ ([a, b, c, d] : List Cond), w ∈ wT := by
  simp only [List.forall_mem_cons]
  exact ⟨ha, hb, hc, hd, fun _ h => absurd h List.not_mem_nil⟩
theorem up_na2 {σ : Sg} {c k a : Nat} {v : Int32} (h : a ≠ c) (j : Nat) : up σ c k v a j = σ a j := if_neg (fun z => h z.1)
theorem up_z {σ : Sg} {c k : Nat} (h : σ c k = 0) : up σ c k 0 = σ := by
  funext a j
  unfold up
  split
  · rename_i z
    rw [z.1, z.2, h]
  · rfl
section QROWS
variable {K : KT} {M : MT} {T : TT} {pc q : Nat} {L : List (Option Value)} {st : List Value} {n n' : Nat} {R : Rg} {σ σ' : Sg}
theorem aw_q (hq : pc = q) (h : AW K M T q L st n R σ) : AW K M T pc L st n R σ := by subst hq; exact h
theorem aw_qn (hq : pc = q) (hn : n = n') (h : AW K M T q L st n' R σ) : AW K M T pc L st n R σ := by subst hq; subst hn; exact h
theorem aw_qs (hq : pc = q) (hn : σ = σ') (h : AW K M T q L st n R σ') : AW K M T pc L st n R σ := by subst hq; subst hn; exact h
theorem aw_qr {τ τ' c k d : Nat} (hq : pc = q) (ha : asl[τ]? = some (c, k, d)) (hτ : τ + 1 = τ') (h : AW K M T q L st n (Rt τ') σ) : AW K M T pc L st n (upr (Rt τ) c k (some d)) σ := by
  subst hq; subst hτ; rw [rt_s ha]; exact h
theorem aw_putZ {c ci k idx : Nat} (hd : decode M.2.1 pc = .ok (.putfield idx, 3)) (hf : FL M.1 idx ci k) (hc : c < n) (hs : (sh c).1 = ci) (hi : isr ci k = false) (hz : σ c k = 0) (h : AW K M T (pc + 3) L st n R σ) : AW K M T pc L (.int 0 :: .ref c :: st) n R σ :=
  aw_putI hd hf hc hs hi (by rw [up_z hz]; exact h)
end QROWS
theorem hacZ : Cond.arrayClass .boolean ∈ wT := by decide +kernel
theorem hoi1 : Cond.instanceMethod objectInit ∈ wT := by decide +kernel
theorem hoi2 : Cond.code objectInit ⟨#[0xb1]⟩ 1 none ∈ wT := by decide +kernel

def mX0_init : MT := (RX0, cX0_init, 2, none, 3)
def mX1_init : MT := (RX1, cX1_init, 1, none, 1)
def mX2_init : MT := (RX2, cX2_init, 2, none, 1)
def mX3_init : MT := (RX3, cX3_init, 2, none, 3)
def mX4_init : MT := (RX4, cX4_init, 4, none, 2)
def mX5_init : MT := (RX5, cX5_init, 1, none, 2)
def mX6_init : MT := (RX6, cX6_init, 2, none, 2)
def mX7_init : MT := (RX7, cX7_init, 2, none, 7)
theorem hdef0 : ∀ k, k < 5 → isr 0 k = true → defaultValue (tyX0 k) = .null := by decide +kernel
theorem hdef1 : ∀ k, k < 9 → isr 1 k = true → defaultValue (tyX1 k) = .null := by decide +kernel
theorem hdef2 : ∀ k, k < 6 → isr 2 k = true → defaultValue (tyX2 k) = .null := by decide +kernel
theorem hdef3 : ∀ k, k < 5 → isr 3 k = true → defaultValue (tyX3 k) = .null := by decide +kernel
theorem hdef4 : ∀ k, k < 2 → isr 4 k = true → defaultValue (tyX4 k) = .null := by decide +kernel
theorem hdef5 : ∀ k, k < 5 → isr 5 k = true → defaultValue (tyX5 k) = .null := by decide +kernel
theorem hdef6 : ∀ k, k < 8 → isr 6 k = true → defaultValue (tyX6 k) = .null := by decide +kernel
theorem hdef7 : ∀ k, k < 9 → isr 7 k = true → defaultValue (tyX7 k) = .null := by decide +kernel
def S0 : Sg := fun _ _ => 0
theorem S0_z (a k : Nat) : S0 a k = 0 := rfl
def S1 : Sg := up S0 1 4 (-4)
theorem S1_z (a : Nat) (h1 : a ≠ 1) (k : Nat) : S1 a k = 0 := (up_na2 h1 k).trans (S0_z a  k)
def S2 : Sg := up S1 1 5 (4)
theorem S2_z (a : Nat) (h1 : a ≠ 1) (k : Nat) : S2 a k = 0 := (up_na2 h1 k).trans (S1_z a h1 k)
def S3 : Sg := up S2 6 4 (-4)
theorem S3_z (a : Nat) (h1 : a ≠ 1) (h6 : a ≠ 6) (k : Nat) : S3 a k = 0 := (up_na2 h6 k).trans (S2_z a h1 k)
def S4 : Sg := up S3 6 5 (4)
theorem S4_z (a : Nat) (h1 : a ≠ 1) (h6 : a ≠ 6) (k : Nat) : S4 a k = 0 := (up_na2 h6 k).trans (S3_z a h1 h6 k)
def S5 : Sg := up S4 92 4 (-4)
theorem S5_z (a : Nat) (h1 : a ≠ 1) (h6 : a ≠ 6) (h92 : a ≠ 92) (k : Nat) : S5 a k = 0 := (up_na2 h92 k).trans (S4_z a h1 h6 k)
set_option maxRecDepth 100000 in
theorem zs_1 : sh 1 = (1, 0) := by decide +kernel
set_option maxRecDepth 100000 in
theorem zf1_9 : FL RX1 9 1 0 := ⟨_, _, _, _, cf1, by decide, (wTi 50 rfl rfl)⟩
set_option maxRecDepth 100000 in
theorem zf1_15 : FL RX1 15 1 1 := ⟨_, _, _, _, cf1, by decide, (wTi 54 rfl rfl)⟩
set_option maxRecDepth 100000 in
theorem zf1_18 : FL RX1 18 1 2 := ⟨_, _, _, _, cf1, by decide, (wTi 58 rfl rfl)⟩
set_option maxRecDepth 100000 in
theorem zf1_21 : FL RX1 21 1 3 := ⟨_, _, _, _, cf1, by decide, (wTi 60 rfl rfl)⟩
set_option maxRecDepth 100000 in
theorem zf1_24 : FL RX1 24 1 4 := ⟨_, _, _, _, cf1, by decide, (wTi 65 rfl rfl)⟩
set_option maxRecDepth 100000 in
theorem zf1_27 : FL RX1 27 1 5 := ⟨_, _, _, _, cf1, by decide, (wTi 70 rfl rfl)⟩
set_option maxRecDepth 100000 in
theorem zf1_30 : FL RX1 30 1 6 := ⟨_, _, _, _, cf1, by decide, (wTi 74 rfl rfl)⟩
set_option maxRecDepth 100000 in
theorem zs_2 : sh 2 = (9, 8) := by decide +kernel
set_option maxRecDepth 100000 in
theorem zs_3 : sh 3 = (9, 9) := by decide +kernel
set_option maxRecDepth 100000 in
theorem kl_RX7_9 : LIN RX7 9 yX1_init mX1_init 0 := ⟨al3 (wTi 47 rfl rfl) (wTi 23 rfl rfl) (wTi 48 rfl rfl), rfl, rfl, ⟨by decide, by decide, by decide +kernel⟩, "SheepChess", by decide +kernel⟩
set_option maxRecDepth 100000 in
theorem zs_0 : sh 0 = (7, 0) := by decide +kernel
set_option maxRecDepth 100000 in
theorem zs_4 : sh 4 = (5, 0) := by decide +kernel
set_option maxRecDepth 100000 in
theorem zs_5 : sh 5 = (9, 200) := by decide +kernel
set_option maxRecDepth 100000 in
theorem zs_6 : sh 6 = (1, 0) := by decide +kernel
set_option maxRecDepth 100000 in
theorem zs_7 : sh 7 = (9, 8) := by decide +kernel
set_option maxRecDepth 100000 in
theorem zs_8 : sh 8 = (9, 9) := by decide +kernel
set_option maxRecDepth 100000 in
theorem kl_RX5_17 : LIN RX5 17 yX1_init mX1_init 0 := ⟨al3 (wTi 47 rfl rfl) (wTi 23 rfl rfl) (wTi 48 rfl rfl), rfl, rfl, ⟨by decide, by decide, by decide +kernel⟩, "SheepChess", by decide +kernel⟩
set_option maxRecDepth 100000 in
theorem zs_9 : sh 9 = (2, 0) := by decide +kernel
set_option maxRecDepth 100000 in
theorem zf5_18 : FL RX5 18 5 1 := ⟨_, _, _, _, cf5, by decide, (wTi 139 rfl rfl)⟩
set_option maxRecDepth 100000 in
theorem zs_10 : sh 10 = (9, 36) := by decide +kernel
set_option maxRecDepth 100000 in
theorem zs_11 : sh 11 = (9, 8) := by decide +kernel
set_option maxRecDepth 100000 in
theorem zs_12 : sh 12 = (9, 8) := by decide +kernel
set_option maxRecDepth 100000 in
theorem zs_13 : sh 13 = (9, 8) := by decide +kernel
set_option maxRecDepth 100000 in
theorem zf2_24 : FL RX2 24 2 5 := ⟨_, _, _, _, cf2, by decide, (wTi 122 rfl rfl)⟩
set_option maxRecDepth 100000 in
theorem kl_RX5_24 : LI RX5 24 yX2_init mX2_init 1 := ⟨al4 (wTi 111 rfl rfl) (wTi 112 rfl rfl) (wTi 25 rfl rfl) (wTi 113 rfl rfl), rfl, rfl, ⟨by decide, by decide, by decide +kernel⟩⟩
set_option maxRecDepth 100000 in
theorem zf5_31 : FL RX5 31 5 3 := ⟨_, _, _, _, cf5, by decide, (wTi 143 rfl rfl)⟩
set_option maxRecDepth 100000 in
theorem zf5_35 : FL RX5 35 5 4 := ⟨_, _, _, _, cf5, by decide, (wTi 145 rfl rfl)⟩
set_option maxRecDepth 100000 in
theorem kl_RX7_18 : LIN RX7 18 yX5_init mX5_init 0 := ⟨al3 (wTi 104 rfl rfl) (wTi 24 rfl rfl) (wTi 105 rfl rfl), rfl, rfl, ⟨by decide, by decide, by decide +kernel⟩, "SheepChess", by decide +kernel⟩
set_option maxRecDepth 100000 in
theorem zs_14 : sh 14 = (2, 0) := by decide +kernel
set_option maxRecDepth 100000 in
theorem zf7_10 : FL RX7 10 7 0 := ⟨_, _, _, _, cf7, by decide, (wTi 395 rfl rfl)⟩
set_option maxRecDepth 100000 in
theorem zs_15 : sh 15 = (9, 36) := by decide +kernel
set_option maxRecDepth 100000 in
theorem zs_16 : sh 16 = (9, 8) := by decide +kernel
set_option maxRecDepth 100000 in
theorem zs_17 : sh 17 = (9, 8) := by decide +kernel
set_option maxRecDepth 100000 in
theorem zs_18 : sh 18 = (9, 8) := by decide +kernel
set_option maxRecDepth 100000 in
theorem kl_RX7_25 : LI RX7 25 yX2_init mX2_init 1 := ⟨al4 (wTi 158 rfl rfl) (wTi 112 rfl rfl) (wTi 25 rfl rfl) (wTi 113 rfl rfl), rfl, rfl, ⟨by decide, by decide, by decide +kernel⟩⟩
set_option maxRecDepth 100000 in
theorem zs_19 : sh 19 = (2, 0) := by decide +kernel
set_option maxRecDepth 100000 in
theorem zs_20 : sh 20 = (9, 36) := by decide +kernel
set_option maxRecDepth 100000 in
theorem zs_21 : sh 21 = (9, 8) := by decide +kernel
set_option maxRecDepth 100000 in
theorem zs_22 : sh 22 = (9, 8) := by decide +kernel
set_option maxRecDepth 100000 in
theorem zs_23 : sh 23 = (9, 8) := by decide +kernel
set_option maxRecDepth 100000 in
theorem zs_24 : sh 24 = (3, 0) := by decide +kernel
set_option maxRecDepth 100000 in
theorem zs_25 : sh 25 = (9, 8) := by decide +kernel
set_option maxRecDepth 100000 in
theorem zf3_15 : FL RX3 15 3 3 := ⟨_, _, _, _, cf3, by decide, (wTi 184 rfl rfl)⟩
set_option maxRecDepth 100000 in
theorem zf3_19 : FL RX3 19 3 4 := ⟨_, _, _, _, cf3, by decide, (wTi 186 rfl rfl)⟩
set_option maxRecDepth 100000 in
theorem zs_26 : sh 26 = (4, 0) := by decide +kernel
set_option maxRecDepth 100000 in
theorem zs_27 : sh 27 = (2, 0) := by decide +kernel
set_option maxRecDepth 100000 in
theorem zs_28 : sh 28 = (9, 36) := by decide +kernel
set_option maxRecDepth 100000 in
theorem zs_29 : sh 29 = (9, 8) := by decide +kernel
set_option maxRecDepth 100000 in
theorem zs_30 : sh 30 = (9, 8) := by decide +kernel
set_option maxRecDepth 100000 in
theorem zs_31 : sh 31 = (9, 8) := by decide +kernel
set_option maxRecDepth 100000 in
theorem kl_RX4_9 : LI RX4 9 yX2_init mX2_init 1 := ⟨al4 (wTi 172 rfl rfl) (wTi 112 rfl rfl) (wTi 25 rfl rfl) (wTi 113 rfl rfl), rfl, rfl, ⟨by decide, by decide, by decide +kernel⟩⟩
set_option maxRecDepth 100000 in
theorem zs_32 : sh 32 = (11, 8) := by decide +kernel
set_option maxRecDepth 100000 in
theorem zf4_18 : FL RX4 18 4 1 := ⟨_, _, _, _, cf4, by decide, (wTi 175 rfl rfl)⟩
set_option maxRecDepth 100000 in
theorem zf4_12 : FL RX4 12 4 0 := ⟨_, _, _, _, cf4, by decide, (wTi 174 rfl rfl)⟩
set_option maxRecDepth 100000 in
theorem zs_33 : sh 33 = (2, 0) := by decide +kernel
set_option maxRecDepth 100000 in
theorem zs_34 : sh 34 = (9, 36) := by decide +kernel
set_option maxRecDepth 100000 in
theorem zs_35 : sh 35 = (9, 8) := by decide +kernel
set_option maxRecDepth 100000 in
theorem zs_36 : sh 36 = (9, 8) := by decide +kernel
set_option maxRecDepth 100000 in
theorem zs_37 : sh 37 = (9, 8) := by decide +kernel
set_option maxRecDepth 100000 in
theorem zs_38 : sh 38 = (2, 0) := by decide +kernel
set_option maxRecDepth 100000 in
theorem zs_39 : sh 39 = (9, 36) := by decide +kernel
set_option maxRecDepth 100000 in
theorem zs_40 : sh 40 = (9, 8) := by decide +kernel
set_option maxRecDepth 100000 in
theorem zs_41 : sh 41 = (9, 8) := by decide +kernel
set_option maxRecDepth 100000 in
theorem zs_42 : sh 42 = (9, 8) := by decide +kernel
set_option maxRecDepth 100000 in
theorem zs_43 : sh 43 = (2, 0) := by decide +kernel
set_option maxRecDepth 100000 in
theorem zs_44 : sh 44 = (9, 36) := by decide +kernel
set_option maxRecDepth 100000 in
theorem zs_45 : sh 45 = (9, 8) := by decide +kernel
set_option maxRecDepth 100000 in
theorem zs_46 : sh 46 = (9, 8) := by decide +kernel
set_option maxRecDepth 100000 in
theorem zs_47 : sh 47 = (9, 8) := by decide +kernel
set_option maxRecDepth 100000 in
theorem zs_48 : sh 48 = (2, 0) := by decide +kernel
set_option maxRecDepth 100000 in
theorem zs_49 : sh 49 = (9, 36) := by decide +kernel
set_option maxRecDepth 100000 in
theorem zs_50 : sh 50 = (9, 8) := by decide +kernel
set_option maxRecDepth 100000 in
theorem zs_51 : sh 51 = (9, 8) := by decide +kernel
set_option maxRecDepth 100000 in
theorem zs_52 : sh 52 = (9, 8) := by decide +kernel
set_option maxRecDepth 100000 in
theorem zs_53 : sh 53 = (2, 0) := by decide +kernel
set_option maxRecDepth 100000 in
theorem zs_54 : sh 54 = (9, 36) := by decide +kernel
set_option maxRecDepth 100000 in
theorem zs_55 : sh 55 = (9, 8) := by decide +kernel
set_option maxRecDepth 100000 in
theorem zs_56 : sh 56 = (9, 8) := by decide +kernel
set_option maxRecDepth 100000 in
theorem zs_57 : sh 57 = (9, 8) := by decide +kernel
set_option maxRecDepth 100000 in
theorem zs_58 : sh 58 = (2, 0) := by decide +kernel
set_option maxRecDepth 100000 in
theorem zs_59 : sh 59 = (9, 36) := by decide +kernel
set_option maxRecDepth 100000 in
theorem zs_60 : sh 60 = (9, 8) := by decide +kernel
set_option maxRecDepth 100000 in
theorem zs_61 : sh 61 = (9, 8) := by decide +kernel
set_option maxRecDepth 100000 in
theorem zs_62 : sh 62 = (9, 8) := by decide +kernel
set_option maxRecDepth 100000 in
theorem zs_63 : sh 63 = (2, 0) := by decide +kernel
set_option maxRecDepth 100000 in
theorem zs_64 : sh 64 = (9, 36) := by decide +kernel
set_option maxRecDepth 100000 in
theorem zs_65 : sh 65 = (9, 8) := by decide +kernel
set_option maxRecDepth 100000 in
theorem zs_66 : sh 66 = (9, 8) := by decide +kernel
set_option maxRecDepth 100000 in
theorem zs_67 : sh 67 = (9, 8) := by decide +kernel
set_option maxRecDepth 100000 in
theorem kl_RX3_28 : LI RX3 28 yX4_init mX4_init 2 := ⟨al4 (wTi 167 rfl rfl) (wTi 168 rfl rfl) (wTi 27 rfl rfl) (wTi 169 rfl rfl), rfl, rfl, ⟨by decide, by decide, by decide +kernel⟩⟩
set_option maxRecDepth 100000 in
theorem kl_RX7_37 : LI RX7 37 yX3_init mX3_init 1 := ⟨al4 (wTi 161 rfl rfl) (wTi 162 rfl rfl) (wTi 26 rfl rfl) (wTi 163 rfl rfl), rfl, rfl, ⟨by decide, by decide, by decide +kernel⟩⟩
set_option maxRecDepth 100000 in
theorem zs_68 : sh 68 = (4, 0) := by decide +kernel
set_option maxRecDepth 100000 in
theorem zs_69 : sh 69 = (2, 0) := by decide +kernel
set_option maxRecDepth 100000 in
theorem zs_70 : sh 70 = (9, 36) := by decide +kernel
set_option maxRecDepth 100000 in
theorem zs_71 : sh 71 = (9, 8) := by decide +kernel
set_option maxRecDepth 100000 in
theorem zs_72 : sh 72 = (9, 8) := by decide +kernel
set_option maxRecDepth 100000 in
theorem zs_73 : sh 73 = (9, 8) := by decide +kernel
set_option maxRecDepth 100000 in
theorem zs_74 : sh 74 = (11, 2) := by decide +kernel
set_option maxRecDepth 100000 in
theorem zs_75 : sh 75 = (2, 0) := by decide +kernel
set_option maxRecDepth 100000 in
theorem zs_76 : sh 76 = (9, 36) := by decide +kernel
set_option maxRecDepth 100000 in
theorem zs_77 : sh 77 = (9, 8) := by decide +kernel
set_option maxRecDepth 100000 in
theorem zs_78 : sh 78 = (9, 8) := by decide +kernel
set_option maxRecDepth 100000 in
theorem zs_79 : sh 79 = (9, 8) := by decide +kernel
set_option maxRecDepth 100000 in
theorem kl_RX7_44 : LI RX7 44 yX4_init mX4_init 2 := ⟨al4 (wTi 199 rfl rfl) (wTi 168 rfl rfl) (wTi 27 rfl rfl) (wTi 169 rfl rfl), rfl, rfl, ⟨by decide, by decide, by decide +kernel⟩⟩
set_option maxRecDepth 100000 in
theorem zs_80 : sh 80 = (6, 0) := by decide +kernel
set_option maxRecDepth 100000 in
theorem zs_81 : sh 81 = (9, 72) := by decide +kernel
set_option maxRecDepth 100000 in
theorem zs_82 : sh 82 = (9, 72) := by decide +kernel
set_option maxRecDepth 100000 in
theorem zs_83 : sh 83 = (9, 72) := by decide +kernel
set_option maxRecDepth 100000 in
theorem zs_84 : sh 84 = (9, 72) := by decide +kernel
set_option maxRecDepth 100000 in
theorem zs_85 : sh 85 = (9, 72) := by decide +kernel
set_option maxRecDepth 100000 in
theorem zs_86 : sh 86 = (10, 72) := by decide +kernel
set_option maxRecDepth 100000 in
theorem zf6_31 : FL RX6 31 6 7 := ⟨_, _, _, _, cf6, by decide, (wTi 215 rfl rfl)⟩
set_option maxRecDepth 100000 in
theorem zs_87 : sh 87 = (2, 0) := by decide +kernel
set_option maxRecDepth 100000 in
theorem zs_88 : sh 88 = (9, 36) := by decide +kernel
set_option maxRecDepth 100000 in
theorem zs_89 : sh 89 = (9, 8) := by decide +kernel
set_option maxRecDepth 100000 in
theorem zs_90 : sh 90 = (9, 8) := by decide +kernel
set_option maxRecDepth 100000 in
theorem zs_91 : sh 91 = (9, 8) := by decide +kernel
set_option maxRecDepth 100000 in
theorem kl_RX6_37 : LI RX6 37 yX2_init mX2_init 1 := ⟨al4 (wTi 207 rfl rfl) (wTi 112 rfl rfl) (wTi 25 rfl rfl) (wTi 113 rfl rfl), rfl, rfl, ⟨by decide, by decide, by decide +kernel⟩⟩
set_option maxRecDepth 100000 in
theorem kl_RX7_53 : LI RX7 53 yX6_init mX6_init 1 := ⟨al4 (wTi 202 rfl rfl) (wTi 203 rfl rfl) (wTi 28 rfl rfl) (wTi 204 rfl rfl), rfl, rfl, ⟨by decide, by decide, by decide +kernel⟩⟩
set_option maxRecDepth 100000 in
theorem zs_92 : sh 92 = (0, 0) := by decide +kernel
set_option maxRecDepth 100000 in
theorem zs_93 : sh 93 = (9, 5) := by decide +kernel
set_option maxRecDepth 100000 in
theorem zf0_15 : FL RX0 15 0 3 := ⟨_, _, _, _, cf0, by decide, (wTi 245 rfl rfl)⟩
set_option maxRecDepth 100000 in
theorem zf0_19 : FL RX0 19 0 4 := ⟨_, _, _, _, cf0, by decide, (wTi 246 rfl rfl)⟩
set_option maxRecDepth 100000 in
theorem zs_94 : sh 94 = (4, 0) := by decide +kernel
set_option maxRecDepth 100000 in
theorem zs_95 : sh 95 = (2, 0) := by decide +kernel
set_option maxRecDepth 100000 in
theorem zs_96 : sh 96 = (9, 36) := by decide +kernel
set_option maxRecDepth 100000 in
theorem zs_97 : sh 97 = (9, 8) := by decide +kernel
set_option maxRecDepth 100000 in
theorem zs_98 : sh 98 = (9, 8) := by decide +kernel
set_option maxRecDepth 100000 in
theorem zs_99 : sh 99 = (9, 8) := by decide +kernel
set_option maxRecDepth 100000 in
theorem zs_100 : sh 100 = (11, 9) := by decide +kernel
set_option maxRecDepth 100000 in
theorem zs_101 : sh 101 = (2, 0) := by decide +kernel
set_option maxRecDepth 100000 in
theorem zs_102 : sh 102 = (9, 36) := by decide +kernel
set_option maxRecDepth 100000 in
theorem zs_103 : sh 103 = (9, 8) := by decide +kernel
set_option maxRecDepth 100000 in
theorem zs_104 : sh 104 = (9, 8) := by decide +kernel
set_option maxRecDepth 100000 in
theorem zs_105 : sh 105 = (9, 8) := by decide +kernel
set_option maxRecDepth 100000 in
theorem zs_106 : sh 106 = (2, 0) := by decide +kernel
set_option maxRecDepth 100000 in
theorem zs_107 : sh 107 = (9, 36) := by decide +kernel
set_option maxRecDepth 100000 in
theorem zs_108 : sh 108 = (9, 8) := by decide +kernel
set_option maxRecDepth 100000 in
theorem zs_109 : sh 109 = (9, 8) := by decide +kernel
set_option maxRecDepth 100000 in
theorem zs_110 : sh 110 = (9, 8) := by decide +kernel
set_option maxRecDepth 100000 in
theorem zs_111 : sh 111 = (2, 0) := by decide +kernel
set_option maxRecDepth 100000 in
theorem zs_112 : sh 112 = (9, 36) := by decide +kernel
set_option maxRecDepth 100000 in
theorem zs_113 : sh 113 = (9, 8) := by decide +kernel
set_option maxRecDepth 100000 in
theorem zs_114 : sh 114 = (9, 8) := by decide +kernel
set_option maxRecDepth 100000 in
theorem zs_115 : sh 115 = (9, 8) := by decide +kernel
set_option maxRecDepth 100000 in
theorem zs_116 : sh 116 = (2, 0) := by decide +kernel
set_option maxRecDepth 100000 in
theorem zs_117 : sh 117 = (9, 36) := by decide +kernel
set_option maxRecDepth 100000 in
theorem zs_118 : sh 118 = (9, 8) := by decide +kernel
set_option maxRecDepth 100000 in
theorem zs_119 : sh 119 = (9, 8) := by decide +kernel
set_option maxRecDepth 100000 in
theorem zs_120 : sh 120 = (9, 8) := by decide +kernel
set_option maxRecDepth 100000 in
theorem zs_121 : sh 121 = (2, 0) := by decide +kernel
set_option maxRecDepth 100000 in
theorem zs_122 : sh 122 = (9, 36) := by decide +kernel
set_option maxRecDepth 100000 in
theorem zs_123 : sh 123 = (9, 8) := by decide +kernel
set_option maxRecDepth 100000 in
theorem zs_124 : sh 124 = (9, 8) := by decide +kernel
set_option maxRecDepth 100000 in
theorem zs_125 : sh 125 = (9, 8) := by decide +kernel
set_option maxRecDepth 100000 in
theorem zs_126 : sh 126 = (2, 0) := by decide +kernel
set_option maxRecDepth 100000 in
theorem zs_127 : sh 127 = (9, 36) := by decide +kernel
set_option maxRecDepth 100000 in
theorem zs_128 : sh 128 = (9, 8) := by decide +kernel
set_option maxRecDepth 100000 in
theorem zs_129 : sh 129 = (9, 8) := by decide +kernel
set_option maxRecDepth 100000 in
theorem zs_130 : sh 130 = (9, 8) := by decide +kernel
set_option maxRecDepth 100000 in
theorem zs_131 : sh 131 = (2, 0) := by decide +kernel
set_option maxRecDepth 100000 in
theorem zs_132 : sh 132 = (9, 36) := by decide +kernel
set_option maxRecDepth 100000 in
theorem zs_133 : sh 133 = (9, 8) := by decide +kernel
set_option maxRecDepth 100000 in
theorem zs_134 : sh 134 = (9, 8) := by decide +kernel
set_option maxRecDepth 100000 in
theorem zs_135 : sh 135 = (9, 8) := by decide +kernel
set_option maxRecDepth 100000 in
theorem zs_136 : sh 136 = (2, 0) := by decide +kernel
set_option maxRecDepth 100000 in
theorem zs_137 : sh 137 = (9, 36) := by decide +kernel
set_option maxRecDepth 100000 in
theorem zs_138 : sh 138 = (9, 8) := by decide +kernel
set_option maxRecDepth 100000 in
theorem zs_139 : sh 139 = (9, 8) := by decide +kernel
set_option maxRecDepth 100000 in
theorem zs_140 : sh 140 = (9, 8) := by decide +kernel
set_option maxRecDepth 100000 in
theorem kl_RX0_28 : LI RX0 28 yX4_init mX4_init 2 := ⟨al4 (wTi 241 rfl rfl) (wTi 168 rfl rfl) (wTi 27 rfl rfl) (wTi 169 rfl rfl), rfl, rfl, ⟨by decide, by decide, by decide +kernel⟩⟩
set_option maxRecDepth 100000 in
theorem kl_RX7_60 : LI RX7 60 yX0_init mX0_init 1 := ⟨al4 (wTi 236 rfl rfl) (wTi 237 rfl rfl) (wTi 29 rfl rfl) (wTi 238 rfl rfl), rfl, rfl, ⟨by decide, by decide, by decide +kernel⟩⟩
set_option maxRecDepth 100000 in
theorem zf7_65 : FL RX7 65 7 8 := ⟨_, _, _, _, cf7, by decide, (wTi 403 rfl rfl)⟩
