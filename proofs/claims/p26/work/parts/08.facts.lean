/-! facts of the cells: meadows, lands, piles; one cell, one reference slot; links -/
abbrev NC : Nat := 141
theorem nlt {a N : Nat} (h : a < NC) (hN : NC ≤ N) : a < N := Nat.lt_of_lt_of_le h hN
def FU : Nat := 1000000000000000
def FR : Nat := 12
def mds : List Nat := [9, 14, 19, 27, 33, 38, 43, 48, 53, 58, 63, 69, 75, 87, 95, 101, 106, 111, 116, 121, 126, 131, 136]
def lds : List Nat := [1, 6]
def pls : List Nat := [26, 68, 94]
def isM (c : Nat) : Bool := mds.contains c
def isL (c : Nat) : Bool := lds.contains c
def isP (c : Nat) : Bool := pls.contains c
def isA (c : Nat) : Bool := decide (c < NT) && decide ((sh c).1 = 9)
def aln (c : Nat) : Nat := (sh c).2
def lnd (c : Nat) : Nat := if c = 9 then 6 else 1
def pln (p : Nat) : Nat := (sh (p + 6)).2
def pm (p i : Nat) : Nat := if i = 0 then p + 1 else p + 2 + 5 * i
theorem isM_mem {c : Nat} (h : isM c = true) : c ∈ mds := by simpa [isM] using h
theorem isL_mem {c : Nat} (h : isL c = true) : c ∈ lds := by simpa [isL] using h
theorem isP_mem {c : Nat} (h : isP c = true) : c ∈ pls := by simpa [isP] using h
theorem mS {c : Nat} (h : isM c = true) : (sh c).1 = 2 := (by decide +kernel : ∀ c ∈ mds, (sh c).1 = 2) c (isM_mem h)
theorem mlt {c : Nat} (h : isM c = true) : c < NC := (by decide +kernel : ∀ c ∈ mds, c < NC) c (isM_mem h)
theorem lndL {c : Nat} (h : isM c = true) : isL (lnd c) = true := (by decide +kernel : ∀ c ∈ mds, isL (lnd c) = true) c (isM_mem h)
theorem mR0 {c : Nat} (h : isM c = true) : R0 c 0 = some (lnd c) := (by decide +kernel : ∀ c ∈ mds, R0 c 0 = some (lnd c)) c (isM_mem h)
theorem mA1 {c : Nat} (h : isM c = true) : sh (c + 1) = (9, 36) := (by decide +kernel : ∀ c ∈ mds, sh (c + 1) = (9, 36)) c (isM_mem h)
theorem mlt1 {c : Nat} (h : isM c = true) : c + 1 < NC := (by decide +kernel : ∀ c ∈ mds, c + 1 < NC) c (isM_mem h)
theorem mR1 {c : Nat} (h : isM c = true) : R0 c 1 = some (c + 1) := (by decide +kernel : ∀ c ∈ mds, R0 c 1 = some (c + 1)) c (isM_mem h)
theorem mA2 {c : Nat} (h : isM c = true) : sh (c + 2) = (9, 8) := (by decide +kernel : ∀ c ∈ mds, sh (c + 2) = (9, 8)) c (isM_mem h)
theorem mlt2 {c : Nat} (h : isM c = true) : c + 2 < NC := (by decide +kernel : ∀ c ∈ mds, c + 2 < NC) c (isM_mem h)
theorem mR2 {c : Nat} (h : isM c = true) : R0 c 2 = some (c + 2) := (by decide +kernel : ∀ c ∈ mds, R0 c 2 = some (c + 2)) c (isM_mem h)
theorem mA3 {c : Nat} (h : isM c = true) : sh (c + 3) = (9, 8) := (by decide +kernel : ∀ c ∈ mds, sh (c + 3) = (9, 8)) c (isM_mem h)
theorem mlt3 {c : Nat} (h : isM c = true) : c + 3 < NC := (by decide +kernel : ∀ c ∈ mds, c + 3 < NC) c (isM_mem h)
theorem mR3 {c : Nat} (h : isM c = true) : R0 c 3 = some (c + 3) := (by decide +kernel : ∀ c ∈ mds, R0 c 3 = some (c + 3)) c (isM_mem h)
theorem mA4 {c : Nat} (h : isM c = true) : sh (c + 4) = (9, 8) := (by decide +kernel : ∀ c ∈ mds, sh (c + 4) = (9, 8)) c (isM_mem h)
theorem mlt4 {c : Nat} (h : isM c = true) : c + 4 < NC := (by decide +kernel : ∀ c ∈ mds, c + 4 < NC) c (isM_mem h)
theorem mR4 {c : Nat} (h : isM c = true) : R0 c 4 = some (c + 4) := (by decide +kernel : ∀ c ∈ mds, R0 c 4 = some (c + 4)) c (isM_mem h)
theorem lS {c : Nat} (h : isL c = true) : (sh c).1 = 1 := (by decide +kernel : ∀ c ∈ lds, (sh c).1 = 1) c (isL_mem h)
theorem llt {c : Nat} (h : isL c = true) : c < NC := (by decide +kernel : ∀ c ∈ lds, c < NC) c (isL_mem h)
theorem lA1 {c : Nat} (h : isL c = true) : sh (c + 1) = (9, 8) := (by decide +kernel : ∀ c ∈ lds, sh (c + 1) = (9, 8)) c (isL_mem h)
theorem llt1 {c : Nat} (h : isL c = true) : c + 1 < NC := (by decide +kernel : ∀ c ∈ lds, c + 1 < NC) c (isL_mem h)
theorem lR1 {c : Nat} (h : isL c = true) : R0 c 7 = some (c + 1) := (by decide +kernel : ∀ c ∈ lds, R0 c 7 = some (c + 1)) c (isL_mem h)
theorem lA2 {c : Nat} (h : isL c = true) : sh (c + 2) = (9, 9) := (by decide +kernel : ∀ c ∈ lds, sh (c + 2) = (9, 9)) c (isL_mem h)
theorem llt2 {c : Nat} (h : isL c = true) : c + 2 < NC := (by decide +kernel : ∀ c ∈ lds, c + 2 < NC) c (isL_mem h)
theorem lR2 {c : Nat} (h : isL c = true) : R0 c 8 = some (c + 2) := (by decide +kernel : ∀ c ∈ lds, R0 c 8 = some (c + 2)) c (isL_mem h)
theorem pS {c : Nat} (h : isP c = true) : (sh c).1 = 4 := (by decide +kernel : ∀ c ∈ pls, (sh c).1 = 4) c (isP_mem h)
theorem plt {c : Nat} (h : isP c = true) : c < NC := (by decide +kernel : ∀ c ∈ pls, c < NC) c (isP_mem h)
theorem plt6 {c : Nat} (h : isP c = true) : c + 6 < NC := (by decide +kernel : ∀ c ∈ pls, c + 6 < NC) c (isP_mem h)
theorem pA {c : Nat} (h : isP c = true) : sh (c + 6) = (11, pln c) := (by decide +kernel : ∀ c ∈ pls, sh (c + 6) = (11, pln c)) c (isP_mem h)
theorem pR0 {c : Nat} (h : isP c = true) : R0 c 0 = some (c + 1) := (by decide +kernel : ∀ c ∈ pls, R0 c 0 = some (c + 1)) c (isP_mem h)
theorem pR1 {c : Nat} (h : isP c = true) : R0 c 1 = some (c + 6) := (by decide +kernel : ∀ c ∈ pls, R0 c 1 = some (c + 6)) c (isP_mem h)
theorem pM0 {c : Nat} (h : isP c = true) : isM (c + 1) = true := (by decide +kernel : ∀ c ∈ pls, isM (c + 1) = true) c (isP_mem h)
theorem inb_lt {i : Int32} {n : Nat} (z : inb i n = true) : i.toNatClampNeg < n := by
  simp only [inb, Bool.and_eq_true, decide_eq_true_eq] at z
  exact z.2
theorem pMi {p : Nat} {i : Int32} (h : isP p = true) (z : inb i (pln p) = true) : isM (pm p i.toNatClampNeg) = true := (by decide +kernel : ∀ p ∈ pls, ∀ k, k < pln p → isM (pm p k) = true) p (isP_mem h) _ (inb_lt z)
theorem pRA {p : Nat} {i : Int32} (h : isP p = true) (z : inb i (pln p) = true) : R0 (p + 6) i.toNatClampNeg = some (pm p i.toNatClampNeg) := (by decide +kernel : ∀ p ∈ pls, ∀ k, k < pln p → R0 (p + 6) k = some (pm p k)) p (isP_mem h) _ (inb_lt z)
theorem alt {c : Nat} (h : isA c = true) : c < NT := by
  simp only [isA, Bool.and_eq_true, decide_eq_true_eq] at h
  exact h.1
theorem aS {c : Nat} (h : isA c = true) : sh c = (9, aln c) := by
  simp only [isA, Bool.and_eq_true, decide_eq_true_eq] at h
  exact Prod.ext h.2 rfl
theorem s_0 : sh 0 = (7, 0) := by decide +kernel
theorem s_1 : sh 1 = (1, 0) := by decide +kernel
theorem s_4 : sh 4 = (5, 0) := by decide +kernel
theorem s_5 : sh 5 = (9, 200) := by decide +kernel
theorem s_6 : sh 6 = (1, 0) := by decide +kernel
theorem s_7 : sh 7 = (9, 8) := by decide +kernel
theorem s_8 : sh 8 = (9, 9) := by decide +kernel
theorem s_9 : sh 9 = (2, 0) := by decide +kernel
theorem s_10 : sh 10 = (9, 36) := by decide +kernel
theorem s_13 : sh 13 = (9, 8) := by decide +kernel
theorem s_14 : sh 14 = (2, 0) := by decide +kernel
theorem s_19 : sh 19 = (2, 0) := by decide +kernel
theorem s_24 : sh 24 = (3, 0) := by decide +kernel
theorem s_25 : sh 25 = (9, 8) := by decide +kernel
theorem s_26 : sh 26 = (4, 0) := by decide +kernel
theorem s_68 : sh 68 = (4, 0) := by decide +kernel
theorem s_80 : sh 80 = (6, 0) := by decide +kernel
theorem s_81 : sh 81 = (9, 72) := by decide +kernel
theorem s_82 : sh 82 = (9, 72) := by decide +kernel
theorem s_83 : sh 83 = (9, 72) := by decide +kernel
theorem s_84 : sh 84 = (9, 72) := by decide +kernel
theorem s_85 : sh 85 = (9, 72) := by decide +kernel
theorem s_86 : sh 86 = (10, 72) := by decide +kernel
theorem s_87 : sh 87 = (2, 0) := by decide +kernel
theorem s_92 : sh 92 = (0, 0) := by decide +kernel
theorem s_93 : sh 93 = (9, 5) := by decide +kernel
theorem s_94 : sh 94 = (4, 0) := by decide +kernel
theorem s_141 : sh 141 = (9, 22) := by decide +kernel
theorem s_142 : sh 142 = (9, 54) := by decide +kernel
theorem r_0_0 : R0 0 0 = some 1 := by decide +kernel
theorem r_0_1 : R0 0 1 = some 4 := by decide +kernel
theorem r_0_2 : R0 0 2 = some 14 := by decide +kernel
theorem r_0_3 : R0 0 3 = some 19 := by decide +kernel
theorem r_0_4 : R0 0 4 = some 24 := by decide +kernel
theorem r_0_5 : R0 0 5 = some 68 := by decide +kernel
theorem r_0_6 : R0 0 6 = some 80 := by decide +kernel
theorem r_0_7 : R0 0 7 = some 92 := by decide +kernel
theorem r_4_0 : R0 4 0 = some 5 := by decide +kernel
theorem r_4_1 : R0 4 1 = some 6 := by decide +kernel
theorem r_4_2 : R0 4 2 = some 9 := by decide +kernel
theorem r_6_7 : R0 6 7 = some 7 := by decide +kernel
theorem r_6_8 : R0 6 8 = some 8 := by decide +kernel
theorem r_9_1 : R0 9 1 = some 10 := by decide +kernel
theorem r_9_4 : R0 9 4 = some 13 := by decide +kernel
theorem r_24_1 : R0 24 1 = some 26 := by decide +kernel
theorem r_24_2 : R0 24 2 = some 25 := by decide +kernel
theorem r_80_0 : R0 80 0 = some 87 := by decide +kernel
theorem r_80_1 : R0 80 1 = some 81 := by decide +kernel
theorem r_80_2 : R0 80 2 = some 82 := by decide +kernel
theorem r_80_3 : R0 80 3 = some 83 := by decide +kernel
theorem r_80_4 : R0 80 4 = some 84 := by decide +kernel
theorem r_80_5 : R0 80 5 = some 85 := by decide +kernel
theorem r_80_6 : R0 80 6 = some 86 := by decide +kernel
theorem r_92_0 : R0 92 0 = some 1 := by decide +kernel
theorem r_92_1 : R0 92 1 = some 94 := by decide +kernel
theorem r_92_2 : R0 92 2 = some 93 := by decide +kernel
theorem cf0 : CFact 0 RX0 TX0 5 tyX0 := ⟨rfl, by decide, rfl, by decide +kernel, tyX0_ok, nmX0, by decide +kernel, by decide +kernel⟩
theorem cf1 : CFact 1 RX1 TX1 9 tyX1 := ⟨rfl, by decide, rfl, by decide +kernel, tyX1_ok, nmX1, by decide +kernel, by decide +kernel⟩
theorem cf2 : CFact 2 RX2 TX2 6 tyX2 := ⟨rfl, by decide, rfl, by decide +kernel, tyX2_ok, nmX2, by decide +kernel, by decide +kernel⟩
theorem cf3 : CFact 3 RX3 TX3 5 tyX3 := ⟨rfl, by decide, rfl, by decide +kernel, tyX3_ok, nmX3, by decide +kernel, by decide +kernel⟩
theorem cf4 : CFact 4 RX4 TX4 2 tyX4 := ⟨rfl, by decide, rfl, by decide +kernel, tyX4_ok, nmX4, by decide +kernel, by decide +kernel⟩
theorem cf5 : CFact 5 RX5 TX5 5 tyX5 := ⟨rfl, by decide, rfl, by decide +kernel, tyX5_ok, nmX5, by decide +kernel, by decide +kernel⟩
theorem cf6 : CFact 6 RX6 TX6 8 tyX6 := ⟨rfl, by decide, rfl, by decide +kernel, tyX6_ok, nmX6, by decide +kernel, by decide +kernel⟩
theorem cf7 : CFact 7 RX7 TX7 9 tyX7 := ⟨rfl, by decide, rfl, by decide +kernel, tyX7_ok, nmX7, by decide +kernel, by decide +kernel⟩
theorem cf8 : CFact 8 RX7 TX8 0 tyX8 := ⟨rfl, by decide, rfl, by decide +kernel, tyX8_ok, nmX8, by decide +kernel, by decide +kernel⟩
set_option maxRecDepth 100000 in
theorem fl0_15 : FL RX0 15 0 3 := ⟨_, _, _, _, cf0, by decide, (wTi 245 rfl rfl)⟩
set_option maxRecDepth 100000 in
theorem fl0_19 : FL RX0 19 0 4 := ⟨_, _, _, _, cf0, by decide, (wTi 246 rfl rfl)⟩
set_option maxRecDepth 100000 in
theorem fl0_22 : FL RX0 22 0 0 := ⟨_, _, _, _, cf0, by decide, (wTi 242 rfl rfl)⟩
set_option maxRecDepth 100000 in
theorem fl0_31 : FL RX0 31 0 1 := ⟨_, _, _, _, cf0, by decide, (wTi 243 rfl rfl)⟩
set_option maxRecDepth 100000 in
theorem fl0_75 : FL RX0 75 1 3 := ⟨_, _, _, _, cf1, by decide, (wTi 62 rfl rfl)⟩
set_option maxRecDepth 100000 in
theorem fl0_84 : FL RX0 84 1 4 := ⟨_, _, _, _, cf1, by decide, (wTi 66 rfl rfl)⟩
set_option maxRecDepth 100000 in
theorem fl0_9 : FL RX0 9 0 2 := ⟨_, _, _, _, cf0, by decide, (wTi 244 rfl rfl)⟩
set_option maxRecDepth 100000 in
theorem fl1_15 : FL RX1 15 1 1 := ⟨_, _, _, _, cf1, by decide, (wTi 54 rfl rfl)⟩
set_option maxRecDepth 100000 in
theorem fl1_18 : FL RX1 18 1 2 := ⟨_, _, _, _, cf1, by decide, (wTi 58 rfl rfl)⟩
set_option maxRecDepth 100000 in
theorem fl1_21 : FL RX1 21 1 3 := ⟨_, _, _, _, cf1, by decide, (wTi 60 rfl rfl)⟩
set_option maxRecDepth 100000 in
theorem fl1_24 : FL RX1 24 1 4 := ⟨_, _, _, _, cf1, by decide, (wTi 65 rfl rfl)⟩
set_option maxRecDepth 100000 in
theorem fl1_27 : FL RX1 27 1 5 := ⟨_, _, _, _, cf1, by decide, (wTi 70 rfl rfl)⟩
set_option maxRecDepth 100000 in
theorem fl1_30 : FL RX1 30 1 6 := ⟨_, _, _, _, cf1, by decide, (wTi 74 rfl rfl)⟩
set_option maxRecDepth 100000 in
theorem fl1_33 : FL RX1 33 1 7 := ⟨_, _, _, _, cf1, by decide, (wTi 76 rfl rfl)⟩
set_option maxRecDepth 100000 in
theorem fl1_37 : FL RX1 37 1 8 := ⟨_, _, _, _, cf1, by decide, (wTi 79 rfl rfl)⟩
set_option maxRecDepth 100000 in
theorem fl1_9 : FL RX1 9 1 0 := ⟨_, _, _, _, cf1, by decide, (wTi 50 rfl rfl)⟩
set_option maxRecDepth 100000 in
theorem fl2_130 : FL RX2 130 1 5 := ⟨_, _, _, _, cf1, by decide, (wTi 72 rfl rfl)⟩
set_option maxRecDepth 100000 in
theorem fl2_139 : FL RX2 139 1 4 := ⟨_, _, _, _, cf1, by decide, (wTi 69 rfl rfl)⟩
set_option maxRecDepth 100000 in
theorem fl2_15 : FL RX2 15 2 2 := ⟨_, _, _, _, cf2, by decide, (wTi 118 rfl rfl)⟩
set_option maxRecDepth 100000 in
theorem fl2_18 : FL RX2 18 2 3 := ⟨_, _, _, _, cf2, by decide, (wTi 119 rfl rfl)⟩
set_option maxRecDepth 100000 in
theorem fl2_21 : FL RX2 21 2 4 := ⟨_, _, _, _, cf2, by decide, (wTi 120 rfl rfl)⟩
set_option maxRecDepth 100000 in
theorem fl2_24 : FL RX2 24 2 5 := ⟨_, _, _, _, cf2, by decide, (wTi 122 rfl rfl)⟩
set_option maxRecDepth 100000 in
theorem fl2_28 : FL RX2 28 2 0 := ⟨_, _, _, _, cf2, by decide, (wTi 115 rfl rfl)⟩
set_option maxRecDepth 100000 in
theorem fl2_38 : FL RX2 38 1 0 := ⟨_, _, _, _, cf1, by decide, (wTi 51 rfl rfl)⟩
set_option maxRecDepth 100000 in
theorem fl2_43 : FL RX2 43 1 3 := ⟨_, _, _, _, cf1, by decide, (wTi 61 rfl rfl)⟩
set_option maxRecDepth 100000 in
theorem fl2_84 : FL RX2 84 1 1 := ⟨_, _, _, _, cf1, by decide, (wTi 56 rfl rfl)⟩
set_option maxRecDepth 100000 in
theorem fl2_87 : FL RX2 87 1 7 := ⟨_, _, _, _, cf1, by decide, (wTi 78 rfl rfl)⟩
set_option maxRecDepth 100000 in
theorem fl2_9 : FL RX2 9 2 1 := ⟨_, _, _, _, cf2, by decide, (wTi 116 rfl rfl)⟩
set_option maxRecDepth 100000 in
theorem fl3_15 : FL RX3 15 3 3 := ⟨_, _, _, _, cf3, by decide, (wTi 184 rfl rfl)⟩
set_option maxRecDepth 100000 in
theorem fl3_19 : FL RX3 19 3 4 := ⟨_, _, _, _, cf3, by decide, (wTi 186 rfl rfl)⟩
set_option maxRecDepth 100000 in
theorem fl3_31 : FL RX3 31 3 1 := ⟨_, _, _, _, cf3, by decide, (wTi 182 rfl rfl)⟩
set_option maxRecDepth 100000 in
theorem fl3_9 : FL RX3 9 3 2 := ⟨_, _, _, _, cf3, by decide, (wTi 183 rfl rfl)⟩
set_option maxRecDepth 100000 in
theorem fl4_12 : FL RX4 12 4 0 := ⟨_, _, _, _, cf4, by decide, (wTi 174 rfl rfl)⟩
set_option maxRecDepth 100000 in
theorem fl4_18 : FL RX4 18 4 1 := ⟨_, _, _, _, cf4, by decide, (wTi 175 rfl rfl)⟩
set_option maxRecDepth 100000 in
theorem fl5_102 : FL RX5 102 1 7 := ⟨_, _, _, _, cf1, by decide, (wTi 77 rfl rfl)⟩
set_option maxRecDepth 100000 in
theorem fl5_105 : FL RX5 105 2 4 := ⟨_, _, _, _, cf2, by decide, (wTi 121 rfl rfl)⟩
set_option maxRecDepth 100000 in
theorem fl5_112 : FL RX5 112 1 4 := ⟨_, _, _, _, cf1, by decide, (wTi 67 rfl rfl)⟩
set_option maxRecDepth 100000 in
theorem fl5_115 : FL RX5 115 1 5 := ⟨_, _, _, _, cf1, by decide, (wTi 71 rfl rfl)⟩
set_option maxRecDepth 100000 in
theorem fl5_118 : FL RX5 118 1 6 := ⟨_, _, _, _, cf1, by decide, (wTi 75 rfl rfl)⟩
set_option maxRecDepth 100000 in
theorem fl5_121 : FL RX5 121 1 8 := ⟨_, _, _, _, cf1, by decide, (wTi 80 rfl rfl)⟩
set_option maxRecDepth 100000 in
theorem fl5_18 : FL RX5 18 5 1 := ⟨_, _, _, _, cf5, by decide, (wTi 139 rfl rfl)⟩
set_option maxRecDepth 100000 in
theorem fl5_27 : FL RX5 27 5 2 := ⟨_, _, _, _, cf5, by decide, (wTi 141 rfl rfl)⟩
set_option maxRecDepth 100000 in
theorem fl5_31 : FL RX5 31 5 3 := ⟨_, _, _, _, cf5, by decide, (wTi 143 rfl rfl)⟩
set_option maxRecDepth 100000 in
theorem fl5_35 : FL RX5 35 5 4 := ⟨_, _, _, _, cf5, by decide, (wTi 145 rfl rfl)⟩
set_option maxRecDepth 100000 in
theorem fl5_41 : FL RX5 41 2 5 := ⟨_, _, _, _, cf2, by decide, (wTi 123 rfl rfl)⟩
set_option maxRecDepth 100000 in
theorem fl5_70 : FL RX5 70 1 2 := ⟨_, _, _, _, cf1, by decide, (wTi 59 rfl rfl)⟩
set_option maxRecDepth 100000 in
theorem fl5_73 : FL RX5 73 1 0 := ⟨_, _, _, _, cf1, by decide, (wTi 52 rfl rfl)⟩
set_option maxRecDepth 100000 in
theorem fl5_76 : FL RX5 76 2 1 := ⟨_, _, _, _, cf2, by decide, (wTi 117 rfl rfl)⟩
set_option maxRecDepth 100000 in
theorem fl5_79 : FL RX5 79 1 1 := ⟨_, _, _, _, cf1, by decide, (wTi 55 rfl rfl)⟩
set_option maxRecDepth 100000 in
theorem fl5_9 : FL RX5 9 5 0 := ⟨_, _, _, _, cf5, by decide, (wTi 138 rfl rfl)⟩
set_option maxRecDepth 100000 in
theorem fl5_92 : FL RX5 92 1 3 := ⟨_, _, _, _, cf1, by decide, (wTi 64 rfl rfl)⟩
set_option maxRecDepth 100000 in
theorem fl6_11 : FL RX6 11 6 1 := ⟨_, _, _, _, cf6, by decide, (wTi 209 rfl rfl)⟩
set_option maxRecDepth 100000 in
theorem fl6_15 : FL RX6 15 6 2 := ⟨_, _, _, _, cf6, by decide, (wTi 210 rfl rfl)⟩
set_option maxRecDepth 100000 in
theorem fl6_18 : FL RX6 18 6 3 := ⟨_, _, _, _, cf6, by decide, (wTi 211 rfl rfl)⟩
set_option maxRecDepth 100000 in
theorem fl6_21 : FL RX6 21 6 4 := ⟨_, _, _, _, cf6, by decide, (wTi 212 rfl rfl)⟩
set_option maxRecDepth 100000 in
theorem fl6_24 : FL RX6 24 6 5 := ⟨_, _, _, _, cf6, by decide, (wTi 213 rfl rfl)⟩
set_option maxRecDepth 100000 in
theorem fl6_27 : FL RX6 27 6 6 := ⟨_, _, _, _, cf6, by decide, (wTi 214 rfl rfl)⟩
set_option maxRecDepth 100000 in
theorem fl6_31 : FL RX6 31 6 7 := ⟨_, _, _, _, cf6, by decide, (wTi 215 rfl rfl)⟩
set_option maxRecDepth 100000 in
theorem fl6_40 : FL RX6 40 6 0 := ⟨_, _, _, _, cf6, by decide, (wTi 208 rfl rfl)⟩
set_option maxRecDepth 100000 in
theorem fl7_10 : FL RX7 10 7 0 := ⟨_, _, _, _, cf7, by decide, (wTi 395 rfl rfl)⟩
set_option maxRecDepth 100000 in
theorem fl7_152 : FL RX7 152 2 5 := ⟨_, _, _, _, cf2, by decide, (wTi 124 rfl rfl)⟩
set_option maxRecDepth 100000 in
theorem fl7_155 : FL RX7 155 3 3 := ⟨_, _, _, _, cf3, by decide, (wTi 185 rfl rfl)⟩
set_option maxRecDepth 100000 in
theorem fl7_184 : FL RX7 184 1 4 := ⟨_, _, _, _, cf1, by decide, (wTi 68 rfl rfl)⟩
set_option maxRecDepth 100000 in
theorem fl7_19 : FL RX7 19 7 1 := ⟨_, _, _, _, cf7, by decide, (wTi 396 rfl rfl)⟩
set_option maxRecDepth 100000 in
theorem fl7_197 : FL RX7 197 0 4 := ⟨_, _, _, _, cf0, by decide, (wTi 247 rfl rfl)⟩
set_option maxRecDepth 100000 in
theorem fl7_229 : FL RX7 229 1 0 := ⟨_, _, _, _, cf1, by decide, (wTi 53 rfl rfl)⟩
set_option maxRecDepth 100000 in
theorem fl7_232 : FL RX7 232 1 1 := ⟨_, _, _, _, cf1, by decide, (wTi 57 rfl rfl)⟩
set_option maxRecDepth 100000 in
theorem fl7_238 : FL RX7 238 1 5 := ⟨_, _, _, _, cf1, by decide, (wTi 73 rfl rfl)⟩
set_option maxRecDepth 100000 in
theorem fl7_241 : FL RX7 241 5 1 := ⟨_, _, _, _, cf5, by decide, (wTi 140 rfl rfl)⟩
set_option maxRecDepth 100000 in
theorem fl7_244 : FL RX7 244 5 2 := ⟨_, _, _, _, cf5, by decide, (wTi 142 rfl rfl)⟩
set_option maxRecDepth 100000 in
theorem fl7_28 : FL RX7 28 7 2 := ⟨_, _, _, _, cf7, by decide, (wTi 397 rfl rfl)⟩
set_option maxRecDepth 100000 in
theorem fl7_32 : FL RX7 32 7 3 := ⟨_, _, _, _, cf7, by decide, (wTi 398 rfl rfl)⟩
set_option maxRecDepth 100000 in
theorem fl7_38 : FL RX7 38 7 4 := ⟨_, _, _, _, cf7, by decide, (wTi 399 rfl rfl)⟩
set_option maxRecDepth 100000 in
theorem fl7_47 : FL RX7 47 7 5 := ⟨_, _, _, _, cf7, by decide, (wTi 400 rfl rfl)⟩
set_option maxRecDepth 100000 in
theorem fl7_54 : FL RX7 54 7 6 := ⟨_, _, _, _, cf7, by decide, (wTi 401 rfl rfl)⟩
set_option maxRecDepth 100000 in
theorem fl7_61 : FL RX7 61 7 7 := ⟨_, _, _, _, cf7, by decide, (wTi 402 rfl rfl)⟩
set_option maxRecDepth 100000 in
theorem fl7_65 : FL RX7 65 7 8 := ⟨_, _, _, _, cf7, by decide, (wTi 403 rfl rfl)⟩
set_option maxRecDepth 100000 in
theorem fl7_89 : FL RX7 89 5 3 := ⟨_, _, _, _, cf5, by decide, (wTi 144 rfl rfl)⟩
set_option maxRecDepth 100000 in
theorem fl7_94 : FL RX7 94 1 3 := ⟨_, _, _, _, cf1, by decide, (wTi 63 rfl rfl)⟩
theorem ka2_90 : ∀ w ∈ ([Cond.methodLink RX2 90 Lib.Math.abs.name, Cond.static Lib.Math.abs.name, Cond.initialized "java/lang/Math", Cond.code Lib.Math.abs.name Lib.Math.abs.code 1 (some .int)] : List Cond), w ∈ wT := by decide +kernel
theorem kk1_40 : ∀ w ∈ ([Cond.methodLink RX1 40 arraycopyName, Cond.native arraycopyName, Cond.static arraycopyName, Cond.initialized "java/lang/System"] : List Cond), w ∈ wT := by decide +kernel
theorem kk2_32 : ∀ w ∈ ([Cond.methodLink RX2 32 arraycopyName, Cond.native arraycopyName, Cond.static arraycopyName, Cond.initialized "java/lang/System"] : List Cond), w ∈ wT := by decide +kernel
theorem kg2_136 : (Cond.fieldLink RX2 136 "SheepChess" "WORTHS" "[I" ∈ wT) ∨ ∃ host, Cond.fieldLinkNest RX2 136 "SheepChess" "WORTHS" "[I" host ∈ nestW := Or.inr ⟨"SheepChess", by decide +kernel⟩
theorem kc7_204 : Cond.constantLong RX7 204 (10 : Int64) ∈ wT := by decide +kernel
theorem kc7_247 : Cond.constantLong RX7 247 (7919 : Int64) ∈ wT := by decide +kernel
theorem kc7_249 : Cond.constantLong RX7 249 (6151 : Int64) ∈ wT := by decide +kernel
theorem kc7_251 : Cond.constantLong RX7 251 (65521 : Int64) ∈ wT := by decide +kernel
