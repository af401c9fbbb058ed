/-! facts of the cells: meadows, lands, piles; one cell, one reference slot; links -/
abbrev NC : Nat := 141
theorem nlt {a N : Nat} (h : a < NC) (hN : NC ≤ N) : a < N := Nat.lt_of_lt_of_le h hN
def FU : Nat := 1000000000000000
def FR : Nat := 12
def mds : List Nat := [9, 14, 19, 27, 33, 38, 43, 48, 53, 58, 63, 69, 75, 87, 95, 101, 106, 111, 116, 121, 126, 131, 136]
def lds : List Nat := [1, 6]
def pls : List Nat := [26, 68, 94]
def isM (c : Nat) : Bool := mds.contains c
def isL (c : Nat) : Bool := lds.contains c
def isP (c : Nat) : Bool := pls.contains c
def isA (c : Nat) : Bool := decide (c < NT) && decide ((sh c).1 = 9)
def aln (c : Nat) : Nat := (sh c).2
def lnd (c : Nat) : Nat := if c = 9 then 6 else 1
def pln (p : Nat) : Nat := (sh (p + 6)).2
def pm (p i : Nat) : Nat := if i = 0 then p + 1 else p + 2 + 5 * i
theorem isM_mem {c : Nat} (h : isM c = true) : c ∈ mds := by simpa [isM] using h
theorem isL_mem {c : Nat} (h : isL c = true) : c ∈ lds := by simpa [isL] using h
theorem isP_mem {c : Nat} (h : isP c = true) : c ∈ pls := by simpa [isP] using h
theorem mS {c : Nat} (h : isM c = true) : (sh c).1 = 2 := (by decide +kernel : ∀ c ∈ mds, (sh c).1 = 2) c (isM_mem h)
theorem mlt {c : Nat} (h : isM c = true) : c < NC := (by decide +kernel : ∀ c ∈ mds, c < NC) c (isM_mem h)
theorem lndL {c : Nat} (h : isM c = true) : isL (lnd c) = true := (by decide +kernel : ∀ c ∈ mds, isL (lnd c) = true) c (isM_mem h)
theorem mR0 {c : Nat} (h : isM c = true) : R0 c 0 = some (lnd c) := (by decide +kernel : ∀ c ∈ mds, R0 c 0 = some (lnd c)) c (isM_mem h)
theorem mA1 {c : Nat} (h : isM c = true) : sh (c + 1) = (9, 36) := (by decide +kernel : ∀ c ∈ mds, sh (c + 1) = (9, 36)) c (isM_mem h)
theorem mlt1 {c : Nat} (h : isM c = true) : c + 1 < NC := (by decide +kernel : ∀ c ∈ mds, c + 1 < NC) c (isM_mem h)
theorem mR1 {c : Nat} (h : isM c = true) : R0 c 1 = some (c + 1) := (by decide +kernel : ∀ c ∈ mds, R0 c 1 = some (c + 1)) c (isM_mem h)
theorem mA2 {c : Nat} (h : isM c = true) : sh (c + 2) = (9, 8) := (by decide +kernel : ∀ c ∈ mds, sh (c + 2) = (9, 8)) c (isM_mem h)
theorem mlt2 {c : Nat} (h : isM c = true) : c + 2 < NC := (by decide +kernel : ∀ c ∈ mds, c + 2 < NC) c (isM_mem h)
theorem mR2 {c : Nat} (h : isM c = true) : R0 c 2 = some (c + 2) := (by decide +kernel : ∀ c ∈ mds, R0 c 2 = some (c + 2)) c (isM_mem h)
theorem mA3 {c : Nat} (h : isM c = true) : sh (c + 3) = (9, 8) := (by decide +kernel : ∀ c ∈ mds, sh (c + 3) = (9, 8)) c (isM_mem h)
theorem mlt3 {c : Nat} (h : isM c = true) : c + 3 < NC := (by decide +kernel : ∀ c ∈ mds, c + 3 < NC) c (isM_mem h)
theorem mR3 {c : Nat} (h : isM c = true) : R0 c 3 = some (c + 3) := (by decide +kernel : ∀ c ∈ mds, R0 c 3 = some (c + 3)) c (isM_mem h)
theorem mA4 {c : Nat} (h : isM c = true) : sh (c + 4) = (9, 8) := (by decide +kernel : ∀ c ∈ mds, sh (c + 4) = (9, 8)) c (isM_mem h)
theorem mlt4 {c : Nat} (h : isM c = true) : c + 4 < NC := (by decide +kernel : ∀ c ∈ mds, c + 4 < NC) c (isM_mem h)
theorem mR4 {c : Nat} (h : isM c = true) : R0 c 4 = some (c + 4) := (by decide +kernel : ∀ c ∈ mds, R0 c 4 = some (c + 4)) c (isM_mem h)
theorem lS {c : Nat} (h : isL c = true) : (sh c).1 = 1 := (by decide +kernel : ∀ c ∈ lds, (sh c).1 = 1) c (isL_mem h)
theorem llt {c : Nat} (h : isL c = true) : c < NC := (by decide +kernel : ∀ c ∈ lds, c < NC) c (isL_mem h)
theorem lA1 {c : Nat} (h : isL c = true) : sh (c + 1) = (9, 8) := (by decide +kernel : ∀ c ∈ lds, sh (c + 1) = (9, 8)) c (isL_mem h)
theorem llt1 {c : Nat} (h : isL c = true) : c + 1 < NC := (by decide +kernel : ∀ c ∈ lds, c + 1 < NC) c (isL_mem h)
theorem lR1 {c : Nat} (h : isL c = true) : R0 c 7 = some (c + 1) := (by decide +kernel : ∀ c ∈ lds, R0 c 7 = some (c + 1)) c (isL_mem h)
theorem lA2 {c : Nat} (h : isL c = true) : sh (c + 2) = (9, 9) := (by decide +kernel : ∀ c ∈ lds, sh (c + 2) = (9, 9)) c (isL_mem h)
theorem llt2 {c : Nat} (h : isL c = true) : c + 2 < NC := (by decide +kernel : ∀ c ∈ lds, c + 2 < NC) c (isL_mem h)
theorem lR2 {c : Nat} (h : isL c = true) : R0 c 8 = some (c + 2) := (by decide +kernel : ∀ c ∈ lds, R0 c 8 = some (c + 2)) c (isL_mem h)
theorem pS {c : Nat} (h : isP c = true) : (sh c).1 = 4 := (by decide +kernel : ∀ c ∈ pls, (sh c).1 = 4) c (isP_mem h)
theorem plt {c : Nat} (h : isP c = true) : c < NC := (by decide +kernel : ∀ c ∈ pls, c < NC) c (isP_mem h)
theorem plt6 {c : Nat} (h : isP c = true) : c + 6 < NC := (by decide +kernel : ∀ c ∈ pls, c + 6 < NC) c (isP_mem h)
theorem pA {c : Nat} (h : isP c = true) : sh (c + 6) = (11, pln c) := (by decide +kernel : ∀ c ∈ pls, sh (c + 6) = (11, pln c)) c (isP_mem h)
theorem pR0 {c : Nat} (h : isP c = true) : R0 c 0 = some (c + 1) := (by decide +kernel : ∀ c ∈ pls, R0 c 0 = some (c + 1)) c (isP_mem h)
theorem pR1 {c : Nat} (h : isP c = true) : R0 c 1 = some (c + 6) := (by decide +kernel : ∀ c ∈ pls, R0 c 1 = some (c + 6)) c (isP_mem h)
theorem pM0 {c : Nat} (h : isP c = true) : isM (c + 1) = true := (by decide +kernel : ∀ c ∈ pls, isM (c + 1) = true) c (isP_mem h)
theorem inb_lt {i : Int32} {n : Nat} (z : inb i n = true) : i.toNatClampNeg < n := by
  simp only [inb, Bool.and_eq_true, decide_eq_true_eq] at z
  exact z.2
theorem pMi {p : Nat} {i : Int32} (h : isP p = true) (z : inb i (pln p) = true) : isM (pm p i.toNatClampNeg) = true := (by decide +kernel : ∀ p ∈ pls, ∀ k, k < pln p → isM (pm p k) = true) p (isP_mem h) _ (inb_lt z)
theorem pRA {p : Nat} {i : Int32} (h : isP p = true) (z : inb i (pln p) = true) : R0 (p + 6) i.toNatClampNeg = some (pm p i.toNatClampNeg) := (by decide +kernel : ∀ p ∈ pls, ∀ k, k < pln p → R0 (p + 6) k = some (pm p k)) p (isP_mem h) _ (inb_lt z)
theorem alt {c : Nat} (h : isA c = true) : c < NT := by
  simp only [isA, Bool.and_eq_true, decide_eq_true_eq] at h
  exact h.1
theorem aS {c : Nat} (h : isA c = true) : sh c = (9, aln c) := by
  simp only [isA, Bool.and_eq_true, decide_eq_true_eq] at h
  exact Prod.ext h.2 rfl
theorem s_0 : sh 0 = (7, 0) := by decide +kernel
theorem s_1 : sh 1 = (1, 0) := by decide +kernel
theorem s_4 : sh 4 = (5, 0) := by decide +kernel
theorem s_5 : sh 5 = (9, 200) := by decide +kernel
theorem s_6 : sh 6 = (1, 0) := by decide +kernel
theorem s_7 : sh 7 = (9, 8) := by decide +kernel
theorem s_8 : sh 8 = (9, 9) := by decide +kernel
theorem s_9 : sh 9 = (2, 0) := by decide +kernel
theorem s_10 : sh 10 = (9, 36) := by decide +kernel
theorem s_13 : sh 13 = (9, 8) := by decide +kernel
theorem s_14 : sh 14 = (2, 0) := by decide +kernel
theorem s_19 : sh 19 = (2, 0) := by decide +kernel
theorem s_24 : sh 24 = (3, 0) := by decide +kernel
theorem s_25 : sh 25 = (9, 8) := by decide +kernel
theorem s_26 : sh 26 = (4, 0) := by decide +kernel
theorem s_68 : sh 68 = (4, 0) := by decide +kernel
theorem s_80 : sh 80 = (6, 0) := by decide +kernel
theorem s_81 : sh 81 = (9, 72) := by decide +kernel
theorem s_82 : sh 82 = (9, 72) := by decide +kernel
theorem s_83 : sh 83 = (9, 72) := by decide +kernel
theorem s_84 : sh 84 = (9, 72) := by decide +kernel
theorem s_85 : sh 85 = (9, 72) := by decide +kernel
theorem s_86 : sh 86 = (10, 72) := by decide +kernel
theorem s_87 : sh 87 = (2, 0) := by decide +kernel
theorem s_92 : sh 92 = (0, 0) := by decide +kernel
theorem s_93 : sh 93 = (9, 5) := by decide +kernel
theorem s_94 : sh 94 = (4, 0) := by decide +kernel
theorem s_141 : sh 141 = (8, 0) := by decide +kernel
theorem s_142 : sh 142 = (9, 36) := by decide +kernel
theorem s_143 : sh 143 = (9, 8) := by decide +kernel
theorem s_144 : sh 144 = (9, 8) := by decide +kernel
theorem s_145 : sh 145 = (9, 9) := by decide +kernel
theorem s_146 : sh 146 = (9, 54) := by decide +kernel
theorem s_147 : sh 147 = (9, 432) := by decide +kernel
theorem s_148 : sh 148 = (9, 8) := by decide +kernel
theorem s_150 : sh 150 = (9, 200) := by decide +kernel
theorem s_151 : sh 151 = (9, 3) := by decide +kernel
theorem s_152 : sh 152 = (9, 36) := by decide +kernel
theorem s_153 : sh 153 = (9, 8) := by decide +kernel
theorem s_154 : sh 154 = (9, 8) := by decide +kernel
theorem s_155 : sh 155 = (9, 8) := by decide +kernel
theorem s_156 : sh 156 = (9, 9) := by decide +kernel
theorem s_157 : sh 157 = (9, 54) := by decide +kernel
theorem s_158 : sh 158 = (9, 72) := by decide +kernel
theorem s_159 : sh 159 = (9, 72) := by decide +kernel
theorem s_160 : sh 160 = (9, 72) := by decide +kernel
theorem s_161 : sh 161 = (9, 72) := by decide +kernel
theorem s_162 : sh 162 = (9, 324) := by decide +kernel
theorem s_163 : sh 163 = (9, 6) := by decide +kernel
theorem s_164 : sh 164 = (9, 6) := by decide +kernel
theorem r_0_0 : R0 0 0 = some 1 := by decide +kernel
theorem r_0_1 : R0 0 1 = some 4 := by decide +kernel
theorem r_0_2 : R0 0 2 = some 14 := by decide +kernel
theorem r_0_3 : R0 0 3 = some 19 := by decide +kernel
theorem r_0_4 : R0 0 4 = some 24 := by decide +kernel
theorem r_0_5 : R0 0 5 = some 68 := by decide +kernel
theorem r_0_6 : R0 0 6 = some 80 := by decide +kernel
theorem r_0_7 : R0 0 7 = some 92 := by decide +kernel
theorem r_4_0 : R0 4 0 = some 5 := by decide +kernel
theorem r_4_1 : R0 4 1 = some 6 := by decide +kernel
theorem r_4_2 : R0 4 2 = some 9 := by decide +kernel
theorem r_6_7 : R0 6 7 = some 7 := by decide +kernel
theorem r_6_8 : R0 6 8 = some 8 := by decide +kernel
theorem r_9_1 : R0 9 1 = some 10 := by decide +kernel
theorem r_9_4 : R0 9 4 = some 13 := by decide +kernel
theorem r_24_1 : R0 24 1 = some 26 := by decide +kernel
theorem r_24_2 : R0 24 2 = some 25 := by decide +kernel
theorem r_80_0 : R0 80 0 = some 87 := by decide +kernel
theorem r_80_1 : R0 80 1 = some 81 := by decide +kernel
theorem r_80_2 : R0 80 2 = some 82 := by decide +kernel
theorem r_80_3 : R0 80 3 = some 83 := by decide +kernel
theorem r_80_4 : R0 80 4 = some 84 := by decide +kernel
theorem r_80_5 : R0 80 5 = some 85 := by decide +kernel
theorem r_80_6 : R0 80 6 = some 86 := by decide +kernel
theorem r_92_0 : R0 92 0 = some 1 := by decide +kernel
theorem r_92_1 : R0 92 1 = some 94 := by decide +kernel
theorem r_92_2 : R0 92 2 = some 93 := by decide +kernel
theorem r_141_2 : R0 141 2 = some 142 := by decide +kernel
theorem r_141_4 : R0 141 4 = some 143 := by decide +kernel
theorem r_141_5 : R0 141 5 = some 144 := by decide +kernel
theorem r_141_9 : R0 141 9 = some 145 := by decide +kernel
theorem r_141_10 : R0 141 10 = some 146 := by decide +kernel
theorem r_141_12 : R0 141 12 = some 147 := by decide +kernel
theorem r_141_13 : R0 141 13 = some 148 := by decide +kernel
theorem r_141_15 : R0 141 15 = some 149 := by decide +kernel
theorem r_141_16 : R0 141 16 = some 150 := by decide +kernel
theorem r_141_19 : R0 141 19 = some 151 := by decide +kernel
theorem r_141_22 : R0 141 22 = some 152 := by decide +kernel
theorem r_141_24 : R0 141 24 = some 153 := by decide +kernel
theorem r_141_25 : R0 141 25 = some 154 := by decide +kernel
theorem r_141_26 : R0 141 26 = some 155 := by decide +kernel
theorem r_141_30 : R0 141 30 = some 156 := by decide +kernel
theorem r_141_31 : R0 141 31 = some 157 := by decide +kernel
theorem r_141_33 : R0 141 33 = some 158 := by decide +kernel
theorem r_141_34 : R0 141 34 = some 159 := by decide +kernel
theorem r_141_35 : R0 141 35 = some 160 := by decide +kernel
theorem r_141_36 : R0 141 36 = some 161 := by decide +kernel
theorem r_141_38 : R0 141 38 = some 162 := by decide +kernel
theorem r_141_39 : R0 141 39 = some 163 := by decide +kernel
theorem r_141_40 : R0 141 40 = some 164 := by decide +kernel
theorem cf0 : CFact 0 RX0 TX0 5 tyX0 := ⟨rfl, by decide, rfl, by decide +kernel, tyX0_ok, nmX0, by decide +kernel, by decide +kernel⟩
theorem cf1 : CFact 1 RX1 TX1 9 tyX1 := ⟨rfl, by decide, rfl, by decide +kernel, tyX1_ok, nmX1, by decide +kernel, by decide +kernel⟩
theorem cf2 : CFact 2 RX2 TX2 6 tyX2 := ⟨rfl, by decide, rfl, by decide +kernel, tyX2_ok, nmX2, by decide +kernel, by decide +kernel⟩
theorem cf3 : CFact 3 RX3 TX3 5 tyX3 := ⟨rfl, by decide, rfl, by decide +kernel, tyX3_ok, nmX3, by decide +kernel, by decide +kernel⟩
theorem cf4 : CFact 4 RX4 TX4 2 tyX4 := ⟨rfl, by decide, rfl, by decide +kernel, tyX4_ok, nmX4, by decide +kernel, by decide +kernel⟩
theorem cf5 : CFact 5 RX5 TX5 5 tyX5 := ⟨rfl, by decide, rfl, by decide +kernel, tyX5_ok, nmX5, by decide +kernel, by decide +kernel⟩
theorem cf6 : CFact 6 RX6 TX6 8 tyX6 := ⟨rfl, by decide, rfl, by decide +kernel, tyX6_ok, nmX6, by decide +kernel, by decide +kernel⟩
theorem cf7 : CFact 7 RX7 TX7 9 tyX7 := ⟨rfl, by decide, rfl, by decide +kernel, tyX7_ok, nmX7, by decide +kernel, by decide +kernel⟩
theorem cf8 : CFact 8 RX8 TX8 41 tyX8 := ⟨rfl, by decide, rfl, by decide +kernel, tyX8_ok, nmX8, by decide +kernel, by decide +kernel⟩
set_option maxRecDepth 100000 in
theorem fl0_15 : FL RX0 15 0 3 := ⟨_, _, _, _, cf0, by decide, (wTi 288 rfl rfl)⟩
set_option maxRecDepth 100000 in
theorem fl0_19 : FL RX0 19 0 4 := ⟨_, _, _, _, cf0, by decide, (wTi 289 rfl rfl)⟩
set_option maxRecDepth 100000 in
theorem fl0_22 : FL RX0 22 0 0 := ⟨_, _, _, _, cf0, by decide, (wTi 285 rfl rfl)⟩
set_option maxRecDepth 100000 in
theorem fl0_31 : FL RX0 31 0 1 := ⟨_, _, _, _, cf0, by decide, (wTi 286 rfl rfl)⟩
set_option maxRecDepth 100000 in
theorem fl0_75 : FL RX0 75 1 3 := ⟨_, _, _, _, cf1, by decide, (wTi 105 rfl rfl)⟩
set_option maxRecDepth 100000 in
theorem fl0_84 : FL RX0 84 1 4 := ⟨_, _, _, _, cf1, by decide, (wTi 109 rfl rfl)⟩
set_option maxRecDepth 100000 in
theorem fl0_9 : FL RX0 9 0 2 := ⟨_, _, _, _, cf0, by decide, (wTi 287 rfl rfl)⟩
set_option maxRecDepth 100000 in
theorem fl1_15 : FL RX1 15 1 1 := ⟨_, _, _, _, cf1, by decide, (wTi 97 rfl rfl)⟩
set_option maxRecDepth 100000 in
theorem fl1_18 : FL RX1 18 1 2 := ⟨_, _, _, _, cf1, by decide, (wTi 101 rfl rfl)⟩
set_option maxRecDepth 100000 in
theorem fl1_21 : FL RX1 21 1 3 := ⟨_, _, _, _, cf1, by decide, (wTi 103 rfl rfl)⟩
set_option maxRecDepth 100000 in
theorem fl1_24 : FL RX1 24 1 4 := ⟨_, _, _, _, cf1, by decide, (wTi 108 rfl rfl)⟩
set_option maxRecDepth 100000 in
theorem fl1_27 : FL RX1 27 1 5 := ⟨_, _, _, _, cf1, by decide, (wTi 113 rfl rfl)⟩
set_option maxRecDepth 100000 in
theorem fl1_30 : FL RX1 30 1 6 := ⟨_, _, _, _, cf1, by decide, (wTi 117 rfl rfl)⟩
set_option maxRecDepth 100000 in
theorem fl1_33 : FL RX1 33 1 7 := ⟨_, _, _, _, cf1, by decide, (wTi 119 rfl rfl)⟩
set_option maxRecDepth 100000 in
theorem fl1_37 : FL RX1 37 1 8 := ⟨_, _, _, _, cf1, by decide, (wTi 122 rfl rfl)⟩
set_option maxRecDepth 100000 in
theorem fl1_9 : FL RX1 9 1 0 := ⟨_, _, _, _, cf1, by decide, (wTi 93 rfl rfl)⟩
set_option maxRecDepth 100000 in
theorem fl2_130 : FL RX2 130 1 5 := ⟨_, _, _, _, cf1, by decide, (wTi 115 rfl rfl)⟩
set_option maxRecDepth 100000 in
theorem fl2_139 : FL RX2 139 1 4 := ⟨_, _, _, _, cf1, by decide, (wTi 112 rfl rfl)⟩
set_option maxRecDepth 100000 in
theorem fl2_15 : FL RX2 15 2 2 := ⟨_, _, _, _, cf2, by decide, (wTi 161 rfl rfl)⟩
set_option maxRecDepth 100000 in
theorem fl2_18 : FL RX2 18 2 3 := ⟨_, _, _, _, cf2, by decide, (wTi 162 rfl rfl)⟩
set_option maxRecDepth 100000 in
theorem fl2_21 : FL RX2 21 2 4 := ⟨_, _, _, _, cf2, by decide, (wTi 163 rfl rfl)⟩
set_option maxRecDepth 100000 in
theorem fl2_24 : FL RX2 24 2 5 := ⟨_, _, _, _, cf2, by decide, (wTi 165 rfl rfl)⟩
set_option maxRecDepth 100000 in
theorem fl2_28 : FL RX2 28 2 0 := ⟨_, _, _, _, cf2, by decide, (wTi 158 rfl rfl)⟩
set_option maxRecDepth 100000 in
theorem fl2_38 : FL RX2 38 1 0 := ⟨_, _, _, _, cf1, by decide, (wTi 94 rfl rfl)⟩
set_option maxRecDepth 100000 in
theorem fl2_43 : FL RX2 43 1 3 := ⟨_, _, _, _, cf1, by decide, (wTi 104 rfl rfl)⟩
set_option maxRecDepth 100000 in
theorem fl2_84 : FL RX2 84 1 1 := ⟨_, _, _, _, cf1, by decide, (wTi 99 rfl rfl)⟩
set_option maxRecDepth 100000 in
theorem fl2_87 : FL RX2 87 1 7 := ⟨_, _, _, _, cf1, by decide, (wTi 121 rfl rfl)⟩
set_option maxRecDepth 100000 in
theorem fl2_9 : FL RX2 9 2 1 := ⟨_, _, _, _, cf2, by decide, (wTi 159 rfl rfl)⟩
set_option maxRecDepth 100000 in
theorem fl3_15 : FL RX3 15 3 3 := ⟨_, _, _, _, cf3, by decide, (wTi 227 rfl rfl)⟩
set_option maxRecDepth 100000 in
theorem fl3_19 : FL RX3 19 3 4 := ⟨_, _, _, _, cf3, by decide, (wTi 229 rfl rfl)⟩
set_option maxRecDepth 100000 in
theorem fl3_31 : FL RX3 31 3 1 := ⟨_, _, _, _, cf3, by decide, (wTi 225 rfl rfl)⟩
set_option maxRecDepth 100000 in
theorem fl3_9 : FL RX3 9 3 2 := ⟨_, _, _, _, cf3, by decide, (wTi 226 rfl rfl)⟩
set_option maxRecDepth 100000 in
theorem fl4_12 : FL RX4 12 4 0 := ⟨_, _, _, _, cf4, by decide, (wTi 217 rfl rfl)⟩
set_option maxRecDepth 100000 in
theorem fl4_18 : FL RX4 18 4 1 := ⟨_, _, _, _, cf4, by decide, (wTi 218 rfl rfl)⟩
set_option maxRecDepth 100000 in
theorem fl5_102 : FL RX5 102 1 7 := ⟨_, _, _, _, cf1, by decide, (wTi 120 rfl rfl)⟩
set_option maxRecDepth 100000 in
theorem fl5_105 : FL RX5 105 2 4 := ⟨_, _, _, _, cf2, by decide, (wTi 164 rfl rfl)⟩
set_option maxRecDepth 100000 in
theorem fl5_112 : FL RX5 112 1 4 := ⟨_, _, _, _, cf1, by decide, (wTi 110 rfl rfl)⟩
set_option maxRecDepth 100000 in
theorem fl5_115 : FL RX5 115 1 5 := ⟨_, _, _, _, cf1, by decide, (wTi 114 rfl rfl)⟩
set_option maxRecDepth 100000 in
theorem fl5_118 : FL RX5 118 1 6 := ⟨_, _, _, _, cf1, by decide, (wTi 118 rfl rfl)⟩
set_option maxRecDepth 100000 in
theorem fl5_121 : FL RX5 121 1 8 := ⟨_, _, _, _, cf1, by decide, (wTi 123 rfl rfl)⟩
set_option maxRecDepth 100000 in
theorem fl5_18 : FL RX5 18 5 1 := ⟨_, _, _, _, cf5, by decide, (wTi 182 rfl rfl)⟩
set_option maxRecDepth 100000 in
theorem fl5_27 : FL RX5 27 5 2 := ⟨_, _, _, _, cf5, by decide, (wTi 184 rfl rfl)⟩
set_option maxRecDepth 100000 in
theorem fl5_31 : FL RX5 31 5 3 := ⟨_, _, _, _, cf5, by decide, (wTi 186 rfl rfl)⟩
set_option maxRecDepth 100000 in
theorem fl5_35 : FL RX5 35 5 4 := ⟨_, _, _, _, cf5, by decide, (wTi 188 rfl rfl)⟩
set_option maxRecDepth 100000 in
theorem fl5_41 : FL RX5 41 2 5 := ⟨_, _, _, _, cf2, by decide, (wTi 166 rfl rfl)⟩
set_option maxRecDepth 100000 in
theorem fl5_70 : FL RX5 70 1 2 := ⟨_, _, _, _, cf1, by decide, (wTi 102 rfl rfl)⟩
set_option maxRecDepth 100000 in
theorem fl5_73 : FL RX5 73 1 0 := ⟨_, _, _, _, cf1, by decide, (wTi 95 rfl rfl)⟩
set_option maxRecDepth 100000 in
theorem fl5_76 : FL RX5 76 2 1 := ⟨_, _, _, _, cf2, by decide, (wTi 160 rfl rfl)⟩
set_option maxRecDepth 100000 in
theorem fl5_79 : FL RX5 79 1 1 := ⟨_, _, _, _, cf1, by decide, (wTi 98 rfl rfl)⟩
set_option maxRecDepth 100000 in
theorem fl5_9 : FL RX5 9 5 0 := ⟨_, _, _, _, cf5, by decide, (wTi 181 rfl rfl)⟩
set_option maxRecDepth 100000 in
theorem fl5_92 : FL RX5 92 1 3 := ⟨_, _, _, _, cf1, by decide, (wTi 107 rfl rfl)⟩
set_option maxRecDepth 100000 in
theorem fl6_11 : FL RX6 11 6 1 := ⟨_, _, _, _, cf6, by decide, (wTi 252 rfl rfl)⟩
set_option maxRecDepth 100000 in
theorem fl6_15 : FL RX6 15 6 2 := ⟨_, _, _, _, cf6, by decide, (wTi 253 rfl rfl)⟩
set_option maxRecDepth 100000 in
theorem fl6_18 : FL RX6 18 6 3 := ⟨_, _, _, _, cf6, by decide, (wTi 254 rfl rfl)⟩
set_option maxRecDepth 100000 in
theorem fl6_21 : FL RX6 21 6 4 := ⟨_, _, _, _, cf6, by decide, (wTi 255 rfl rfl)⟩
set_option maxRecDepth 100000 in
theorem fl6_24 : FL RX6 24 6 5 := ⟨_, _, _, _, cf6, by decide, (wTi 256 rfl rfl)⟩
set_option maxRecDepth 100000 in
theorem fl6_27 : FL RX6 27 6 6 := ⟨_, _, _, _, cf6, by decide, (wTi 257 rfl rfl)⟩
set_option maxRecDepth 100000 in
theorem fl6_31 : FL RX6 31 6 7 := ⟨_, _, _, _, cf6, by decide, (wTi 258 rfl rfl)⟩
set_option maxRecDepth 100000 in
theorem fl6_40 : FL RX6 40 6 0 := ⟨_, _, _, _, cf6, by decide, (wTi 251 rfl rfl)⟩
set_option maxRecDepth 100000 in
theorem fl7_10 : FL RX7 10 7 0 := ⟨_, _, _, _, cf7, by decide, (wTi 438 rfl rfl)⟩
set_option maxRecDepth 100000 in
theorem fl7_152 : FL RX7 152 2 5 := ⟨_, _, _, _, cf2, by decide, (wTi 167 rfl rfl)⟩
set_option maxRecDepth 100000 in
theorem fl7_155 : FL RX7 155 3 3 := ⟨_, _, _, _, cf3, by decide, (wTi 228 rfl rfl)⟩
set_option maxRecDepth 100000 in
theorem fl7_184 : FL RX7 184 1 4 := ⟨_, _, _, _, cf1, by decide, (wTi 111 rfl rfl)⟩
set_option maxRecDepth 100000 in
theorem fl7_19 : FL RX7 19 7 1 := ⟨_, _, _, _, cf7, by decide, (wTi 439 rfl rfl)⟩
set_option maxRecDepth 100000 in
theorem fl7_197 : FL RX7 197 0 4 := ⟨_, _, _, _, cf0, by decide, (wTi 290 rfl rfl)⟩
set_option maxRecDepth 100000 in
theorem fl7_229 : FL RX7 229 1 0 := ⟨_, _, _, _, cf1, by decide, (wTi 96 rfl rfl)⟩
set_option maxRecDepth 100000 in
theorem fl7_232 : FL RX7 232 1 1 := ⟨_, _, _, _, cf1, by decide, (wTi 100 rfl rfl)⟩
set_option maxRecDepth 100000 in
theorem fl7_238 : FL RX7 238 1 5 := ⟨_, _, _, _, cf1, by decide, (wTi 116 rfl rfl)⟩
set_option maxRecDepth 100000 in
theorem fl7_241 : FL RX7 241 5 1 := ⟨_, _, _, _, cf5, by decide, (wTi 183 rfl rfl)⟩
set_option maxRecDepth 100000 in
theorem fl7_244 : FL RX7 244 5 2 := ⟨_, _, _, _, cf5, by decide, (wTi 185 rfl rfl)⟩
set_option maxRecDepth 100000 in
theorem fl7_28 : FL RX7 28 7 2 := ⟨_, _, _, _, cf7, by decide, (wTi 440 rfl rfl)⟩
set_option maxRecDepth 100000 in
theorem fl7_32 : FL RX7 32 7 3 := ⟨_, _, _, _, cf7, by decide, (wTi 441 rfl rfl)⟩
set_option maxRecDepth 100000 in
theorem fl7_38 : FL RX7 38 7 4 := ⟨_, _, _, _, cf7, by decide, (wTi 442 rfl rfl)⟩
set_option maxRecDepth 100000 in
theorem fl7_47 : FL RX7 47 7 5 := ⟨_, _, _, _, cf7, by decide, (wTi 443 rfl rfl)⟩
set_option maxRecDepth 100000 in
theorem fl7_54 : FL RX7 54 7 6 := ⟨_, _, _, _, cf7, by decide, (wTi 444 rfl rfl)⟩
set_option maxRecDepth 100000 in
theorem fl7_61 : FL RX7 61 7 7 := ⟨_, _, _, _, cf7, by decide, (wTi 445 rfl rfl)⟩
set_option maxRecDepth 100000 in
theorem fl7_65 : FL RX7 65 7 8 := ⟨_, _, _, _, cf7, by decide, (wTi 446 rfl rfl)⟩
set_option maxRecDepth 100000 in
theorem fl7_89 : FL RX7 89 5 3 := ⟨_, _, _, _, cf5, by decide, (wTi 187 rfl rfl)⟩
set_option maxRecDepth 100000 in
theorem fl7_94 : FL RX7 94 1 3 := ⟨_, _, _, _, cf1, by decide, (wTi 106 rfl rfl)⟩
set_option maxRecDepth 100000 in
theorem fl8_103 : FL RX8 103 8 21 := ⟨_, _, _, _, cf8, by decide, (wTi 857 rfl rfl)⟩
set_option maxRecDepth 100000 in
theorem fl8_106 : FL RX8 106 8 20 := ⟨_, _, _, _, cf8, by decide, (wTi 856 rfl rfl)⟩
set_option maxRecDepth 100000 in
theorem fl8_109 : FL RX8 109 8 23 := ⟨_, _, _, _, cf8, by decide, (wTi 859 rfl rfl)⟩
set_option maxRecDepth 100000 in
theorem fl8_112 : FL RX8 112 8 3 := ⟨_, _, _, _, cf8, by decide, (wTi 839 rfl rfl)⟩
set_option maxRecDepth 100000 in
theorem fl8_119 : FL RX8 119 8 0 := ⟨_, _, _, _, cf8, by decide, (wTi 836 rfl rfl)⟩
set_option maxRecDepth 100000 in
theorem fl8_122 : FL RX8 122 8 17 := ⟨_, _, _, _, cf8, by decide, (wTi 853 rfl rfl)⟩
set_option maxRecDepth 100000 in
theorem fl8_125 : FL RX8 125 8 18 := ⟨_, _, _, _, cf8, by decide, (wTi 854 rfl rfl)⟩
set_option maxRecDepth 100000 in
theorem fl8_13 : FL RX8 13 8 4 := ⟨_, _, _, _, cf8, by decide, (wTi 840 rfl rfl)⟩
set_option maxRecDepth 100000 in
theorem fl8_159 : FL RX8 159 8 1 := ⟨_, _, _, _, cf8, by decide, (wTi 837 rfl rfl)⟩
set_option maxRecDepth 100000 in
theorem fl8_16 : FL RX8 16 8 5 := ⟨_, _, _, _, cf8, by decide, (wTi 841 rfl rfl)⟩
set_option maxRecDepth 100000 in
theorem fl8_166 : FL RX8 166 8 6 := ⟨_, _, _, _, cf8, by decide, (wTi 842 rfl rfl)⟩
set_option maxRecDepth 100000 in
theorem fl8_169 : FL RX8 169 8 7 := ⟨_, _, _, _, cf8, by decide, (wTi 843 rfl rfl)⟩
set_option maxRecDepth 100000 in
theorem fl8_172 : FL RX8 172 8 8 := ⟨_, _, _, _, cf8, by decide, (wTi 844 rfl rfl)⟩
set_option maxRecDepth 100000 in
theorem fl8_175 : FL RX8 175 8 11 := ⟨_, _, _, _, cf8, by decide, (wTi 847 rfl rfl)⟩
set_option maxRecDepth 100000 in
theorem fl8_178 : FL RX8 178 8 14 := ⟨_, _, _, _, cf8, by decide, (wTi 850 rfl rfl)⟩
set_option maxRecDepth 100000 in
theorem fl8_19 : FL RX8 19 8 9 := ⟨_, _, _, _, cf8, by decide, (wTi 845 rfl rfl)⟩
set_option maxRecDepth 100000 in
theorem fl8_198 : FL RX8 198 8 32 := ⟨_, _, _, _, cf8, by decide, (wTi 868 rfl rfl)⟩
set_option maxRecDepth 100000 in
theorem fl8_22 : FL RX8 22 8 10 := ⟨_, _, _, _, cf8, by decide, (wTi 846 rfl rfl)⟩
set_option maxRecDepth 100000 in
theorem fl8_249 : FL RX8 249 8 37 := ⟨_, _, _, _, cf8, by decide, (wTi 873 rfl rfl)⟩
set_option maxRecDepth 100000 in
theorem fl8_25 : FL RX8 25 8 12 := ⟨_, _, _, _, cf8, by decide, (wTi 848 rfl rfl)⟩
set_option maxRecDepth 100000 in
theorem fl8_28 : FL RX8 28 8 13 := ⟨_, _, _, _, cf8, by decide, (wTi 849 rfl rfl)⟩
set_option maxRecDepth 100000 in
theorem fl8_31 : FL RX8 31 8 15 := ⟨_, _, _, _, cf8, by decide, (wTi 851 rfl rfl)⟩
set_option maxRecDepth 100000 in
theorem fl8_34 : FL RX8 34 8 16 := ⟨_, _, _, _, cf8, by decide, (wTi 852 rfl rfl)⟩
set_option maxRecDepth 100000 in
theorem fl8_37 : FL RX8 37 8 19 := ⟨_, _, _, _, cf8, by decide, (wTi 855 rfl rfl)⟩
set_option maxRecDepth 100000 in
theorem fl8_40 : FL RX8 40 8 22 := ⟨_, _, _, _, cf8, by decide, (wTi 858 rfl rfl)⟩
set_option maxRecDepth 100000 in
theorem fl8_43 : FL RX8 43 8 24 := ⟨_, _, _, _, cf8, by decide, (wTi 860 rfl rfl)⟩
set_option maxRecDepth 100000 in
theorem fl8_46 : FL RX8 46 8 25 := ⟨_, _, _, _, cf8, by decide, (wTi 861 rfl rfl)⟩
set_option maxRecDepth 100000 in
theorem fl8_49 : FL RX8 49 8 26 := ⟨_, _, _, _, cf8, by decide, (wTi 862 rfl rfl)⟩
set_option maxRecDepth 100000 in
theorem fl8_52 : FL RX8 52 8 30 := ⟨_, _, _, _, cf8, by decide, (wTi 866 rfl rfl)⟩
set_option maxRecDepth 100000 in
theorem fl8_55 : FL RX8 55 8 31 := ⟨_, _, _, _, cf8, by decide, (wTi 867 rfl rfl)⟩
set_option maxRecDepth 100000 in
theorem fl8_58 : FL RX8 58 8 33 := ⟨_, _, _, _, cf8, by decide, (wTi 869 rfl rfl)⟩
set_option maxRecDepth 100000 in
theorem fl8_61 : FL RX8 61 8 34 := ⟨_, _, _, _, cf8, by decide, (wTi 870 rfl rfl)⟩
set_option maxRecDepth 100000 in
theorem fl8_64 : FL RX8 64 8 35 := ⟨_, _, _, _, cf8, by decide, (wTi 871 rfl rfl)⟩
set_option maxRecDepth 100000 in
theorem fl8_67 : FL RX8 67 8 36 := ⟨_, _, _, _, cf8, by decide, (wTi 872 rfl rfl)⟩
set_option maxRecDepth 100000 in
theorem fl8_7 : FL RX8 7 8 2 := ⟨_, _, _, _, cf8, by decide, (wTi 838 rfl rfl)⟩
set_option maxRecDepth 100000 in
theorem fl8_70 : FL RX8 70 8 38 := ⟨_, _, _, _, cf8, by decide, (wTi 874 rfl rfl)⟩
set_option maxRecDepth 100000 in
theorem fl8_73 : FL RX8 73 8 39 := ⟨_, _, _, _, cf8, by decide, (wTi 875 rfl rfl)⟩
set_option maxRecDepth 100000 in
theorem fl8_76 : FL RX8 76 8 40 := ⟨_, _, _, _, cf8, by decide, (wTi 876 rfl rfl)⟩
set_option maxRecDepth 100000 in
theorem fl8_90 : FL RX8 90 8 27 := ⟨_, _, _, _, cf8, by decide, (wTi 863 rfl rfl)⟩
set_option maxRecDepth 100000 in
theorem fl8_94 : FL RX8 94 8 28 := ⟨_, _, _, _, cf8, by decide, (wTi 864 rfl rfl)⟩
set_option maxRecDepth 100000 in
theorem fl8_97 : FL RX8 97 8 29 := ⟨_, _, _, _, cf8, by decide, (wTi 865 rfl rfl)⟩
theorem ka2_90 : ∀ w ∈ ([Cond.methodLink RX2 90 Lib.Math.abs.name, Cond.static Lib.Math.abs.name, Cond.initialized "java/lang/Math", Cond.code Lib.Math.abs.name Lib.Math.abs.code 1 (some .int)] : List Cond), w ∈ wT := by decide +kernel
theorem kk1_40 : ∀ w ∈ ([Cond.methodLink RX1 40 arraycopyName, Cond.native arraycopyName, Cond.static arraycopyName, Cond.initialized "java/lang/System"] : List Cond), w ∈ wT := by decide +kernel
theorem kk2_32 : ∀ w ∈ ([Cond.methodLink RX2 32 arraycopyName, Cond.native arraycopyName, Cond.static arraycopyName, Cond.initialized "java/lang/System"] : List Cond), w ∈ wT := by decide +kernel
theorem kg2_136 : (Cond.fieldLink RX2 136 "SheepChess" "WORTHS" "[I" ∈ wT) ∨ ∃ host, Cond.fieldLinkNest RX2 136 "SheepChess" "WORTHS" "[I" host ∈ nestW := Or.inr ⟨"SheepChess", by decide +kernel⟩
theorem kc7_204 : Cond.constantLong RX7 204 (10 : Int64) ∈ wT := by decide +kernel
theorem kc7_247 : Cond.constantLong RX7 247 (7919 : Int64) ∈ wT := by decide +kernel
theorem kc7_249 : Cond.constantLong RX7 249 (6151 : Int64) ∈ wT := by decide +kernel
theorem kc7_251 : Cond.constantLong RX7 251 (65521 : Int64) ∈ wT := by decide +kernel
theorem kc8_296 : Cond.constantLong RX8 296 (7919 : Int64) ∈ wT := by decide +kernel
theorem kc8_298 : Cond.constantLong RX8 298 (6151 : Int64) ∈ wT := by decide +kernel
theorem kc8_300 : Cond.constantLong RX8 300 (65521 : Int64) ∈ wT := by decide +kernel
