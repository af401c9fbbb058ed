/-! THE ONE WORLD: cell c of the system lies at base + c; sh: its kind and length; R: what its reference slots hold (cells), σ: its int slots. -/
def shl : List (Nat × Nat) := [(7, 0), (1, 0), (9, 8), (9, 9), (5, 0), (9, 200), (1, 0), (9, 8), (9, 9), (2, 0), (9, 36), (9, 8), (9, 8), (9, 8), (2, 0), (9, 36), (9, 8), (9, 8), (9, 8), (2, 0), (9, 36), (9, 8), (9, 8), (9, 8), (3, 0), (9, 8), (4, 0), (2, 0), (9, 36), (9, 8), (9, 8), (9, 8), (11, 8), (2, 0), (9, 36), (9, 8), (9, 8), (9, 8), (2, 0), (9, 36), (9, 8), (9, 8), (9, 8), (2, 0), (9, 36), (9, 8), (9, 8), (9, 8), (2, 0), (9, 36), (9, 8), (9, 8), (9, 8), (2, 0), (9, 36), (9, 8), (9, 8), (9, 8), (2, 0), (9, 36), (9, 8), (9, 8), (9, 8), (2, 0), (9, 36), (9, 8), (9, 8), (9, 8), (4, 0), (2, 0), (9, 36), (9, 8), (9, 8), (9, 8), (11, 2), (2, 0), (9, 36), (9, 8), (9, 8), (9, 8), (6, 0), (9, 72), (9, 72), (9, 72), (9, 72), (9, 72), (10, 72), (2, 0), (9, 36), (9, 8), (9, 8), (9, 8), (0, 0), (9, 5), (4, 0), (2, 0), (9, 36), (9, 8), (9, 8), (9, 8), (11, 9), (2, 0), (9, 36), (9, 8), (9, 8), (9, 8), (2, 0), (9, 36), (9, 8), (9, 8), (9, 8), (2, 0), (9, 36), (9, 8), (9, 8), (9, 8), (2, 0), (9, 36), (9, 8), (9, 8), (9, 8), (2, 0), (9, 36), (9, 8), (9, 8), (9, 8), (2, 0), (9, 36), (9, 8), (9, 8), (9, 8), (2, 0), (9, 36), (9, 8), (9, 8), (9, 8), (2, 0), (9, 36), (9, 8), (9, 8), (9, 8), (8, 0), (9, 36), (9, 8), (9, 8), (9, 9), (9, 54), (9, 432), (9, 8), (9, 108), (9, 200), (9, 3), (9, 36), (9, 8), (9, 8), (9, 8), (9, 9), (9, 54), (9, 72), (9, 72), (9, 72), (9, 72), (9, 324), (9, 6), (9, 6)]
def sh (c : Nat) : Nat × Nat := shl.getD c (12, 0)
abbrev NT : Nat := 165
def nfl : List Nat := [5, 9, 6, 5, 2, 5, 8, 9, 41]
def nf (k : Nat) : Nat := nfl.getD k 0
def irl : List (List Bool) := [[true, true, true, false, false], [false, false, false, false, false, false, false, true, true], [true, true, true, true, true, false], [true, true, true, false, false], [true, true], [true, true, true, false, false], [true, true, true, true, true, true, true, false], [true, true, true, true, true, true, true, true, false], [false, false, true, false, true, true, false, false, false, true, true, false, true, true, false, true, true, false, false, true, false, false, true, false, true, true, true, false, false, false, true, true, false, true, true, true, true, false, true, true, true]]
def isr (k j : Nat) : Bool := (irl.getD k []).getD j false
def rtl : List (List (Option Nat)) := [[some 1, some 4, some 14, some 19, some 24, some 68, some 80, some 92], [none, none, none, none, none, none, none, some 2, some 3], [], [], [some 5, some 6, some 9], [], [none, none, none, none, none, none, none, some 7, some 8], [], [], [some 6, some 10, some 11, some 12, some 13], [], [], [], [], [some 1, some 15, some 16, some 17, some 18], [], [], [], [], [some 1, some 20, some 21, some 22, some 23], [], [], [], [], [some 1, some 26, some 25], [], [some 27, some 32], [some 1, some 28, some 29, some 30, some 31], [], [], [], [], [some 27, some 33, some 38, some 43, some 48, some 53, some 58, some 63], [some 1, some 34, some 35, some 36, some 37], [], [], [], [], [some 1, some 39, some 40, some 41, some 42], [], [], [], [], [some 1, some 44, some 45, some 46, some 47], [], [], [], [], [some 1, some 49, some 50, some 51, some 52], [], [], [], [], [some 1, some 54, some 55, some 56, some 57], [], [], [], [], [some 1, some 59, some 60, some 61, some 62], [], [], [], [], [some 1, some 64, some 65, some 66, some 67], [], [], [], [], [some 69, some 74], [some 1, some 70, some 71, some 72, some 73], [], [], [], [], [some 69, some 75], [some 1, some 76, some 77, some 78, some 79], [], [], [], [], [some 87, some 81, some 82, some 83, some 84, some 85, some 86], [], [], [], [], [], [], [some 1, some 88, some 89, some 90, some 91], [], [], [], [], [some 1, some 94, some 93], [], [some 95, some 100], [some 1, some 96, some 97, some 98, some 99], [], [], [], [], [some 95, some 101, some 106, some 111, some 116, some 121, some 126, some 131, some 136], [some 1, some 102, some 103, some 104, some 105], [], [], [], [], [some 1, some 107, some 108, some 109, some 110], [], [], [], [], [some 1, some 112, some 113, some 114, some 115], [], [], [], [], [some 1, some 117, some 118, some 119, some 120], [], [], [], [], [some 1, some 122, some 123, some 124, some 125], [], [], [], [], [some 1, some 127, some 128, some 129, some 130], [], [], [], [], [some 1, some 132, some 133, some 134, some 135], [], [], [], [], [some 1, some 137, some 138, some 139, some 140], [], [], [], [], [none, none, some 142, none, some 143, some 144, none, none, none, some 145, some 146, none, some 147, some 148, none, some 149, some 150, none, none, some 151, none, none, some 152, none, some 153, some 154, some 155, none, none, none, some 156, some 157, none, some 158, some 159, some 160, some 161, none, some 162, some 163, some 164], [], [], [], [], [], [], [], [], [], [], [], [], [], [], [], [], [], [], [], [], [], [], []]
def R0 (c k : Nat) : Option Nat := (rtl.getD c []).getD k none
abbrev cls : List vw_C := [(RX0, TX0, 5), (RX1, TX1, 9), (RX2, TX2, 6), (RX3, TX3, 5), (RX4, TX4, 2), (RX5, TX5, 5), (RX6, TX6, 8), (RX7, TX7, 9), (RX8, TX8, 41)]
abbrev Sg : Type := Nat → Nat → Int32
abbrev Rg : Type := Nat → Nat → Option Nat
def up (σ : Sg) (c k : Nat) (v : Int32) : Sg := fun a j => if a = c ∧ j = k then v else σ a j
def upr (R : Rg) (c k : Nat) (v : Option Nat) : Rg := fun a j => if a = c ∧ j = k then v else R a j
def csz (c : Nat) : Nat := if (sh c).1 < 9 then nf (sh c).1 else (sh c).2
def szs : Nat → Nat
  | 0 => 0
  | n + 1 => szs n + csz n
theorem szs_le {a b : Nat} (h : a ≤ b) : szs a ≤ szs b := by
  induction h with
  | refl => exact Nat.le_refl _
  | step _ ih => exact Nat.le_trans ih (Nat.le_add_right _ _)
def cv (base : Nat) (v : Value) : Value := match v with
  | .ref c => .ref (base + c)
  | v => v
theorem cv_cat (base : Nat) (v : Value) : (cv base v).category = v.category := by cases v <;> rfl
def fv (base : Nat) (R : Rg) (σ : Sg) (c j : Nat) : Value := if isr (sh c).1 j = true then va_rf ((R c j).map (fun d => base + d)) else .int (σ c j)
abbrev CG : Type := ClassId × ClassId × ClassId
def cE (g : CG) (base : Nat) (R : Rg) (σ : Sg) (c : Nat) : va_E :=
  if (sh c).1 < 9 then .inr ((sh c).1, (List.range (nf (sh c).1)).map (fv base R σ c))
  else if (sh c).1 = 9 then .inl (g.1, (sh c).2, .inl (σ c))
  else if (sh c).1 = 10 then .inl (g.2.1, (sh c).2, .inl (σ c))
  else .inl (g.2.2, (sh c).2, .inr (.inr (.inr (.inr (fun j => (R c j).map (fun d => base + d))))))
def WD (D : va_G) (g : CG) (base n : Nat) (R : Rg) (σ : Sg) (H : Heap) : Prop := H.size = base + n ∧ ∀ c, c < n → va_at D cls (base + c, cE g base R σ c) H
def wT : List Cond := lw_tbl.filter goodWord
theorem wT_sub {w : Cond} (h : w ∈ wT) : w ∈ lw_tbl := (List.mem_filter.mp h).1
theorem gT {ws : List Cond} (h : ∀ w ∈ ws, w ∈ wT) : GoodIn wT ws := fun w hw => ⟨h w hw, good_of_word (List.mem_filter.mp (h w hw)).2⟩
/-- own class, code, locals, return type, depth of calls -/
abbrev MT : Type := String × ByteArray × Nat × Option FieldType × Nat
def roomOf (d n0 n1 : Nat) : Room := { frames := d, cells := n1 - n0, slots := szs n1 - szs n0, locals := 100 * d }
def worths : Nat → Value := fun j => match j with
  | 0 => .int 5
  | 1 => .int 3
  | 2 => .int 1
  | _ => .int 20
/-- what the tables say of the classes, and the static table -/
def KS (D : va_G) (g : CG) (tw base : Nat) (U : State) (H : Heap) : Prop := va_K D cls [(g.1, .int), (g.2.1, .boolean), (g.2.2, .object RX2)] U ∧ va_Z "SheepChess" "WORTHS" "[I" (.ref tw) (fun q => base ≤ q) U H ∧ va_T .int tw 4 worths (fun q => base ≤ q) U H
theorem KS.moved {D : va_G} {g : CG} {tw base : Nat} {u U : State} {H H1 : Heap} (hvm : u.vm.Alike U.vm) (h : KS D g tw base u H) (hq : ∀ a : Nat, a < H.size → ¬ base ≤ a → H1[a]? = H[a]?) : KS D g tw base U H1 :=
  ⟨va_K.moved hvm h.1, (va_Z.moved hvm h.2.1).kept hq, (va_T.moved hvm h.2.2).kept hq⟩
/-- what a method must come to: its answer, and the world then -/
abbrev TT : Type := Option Value × Nat × Rg × Sg
def QC (D : va_G) (g : CG) (base : Nat) (T : TT) : Array Value → State → Outcome → State → Prop := fun _ st oc t =>
  (oc = .returned (T.1.map (cv base)) ∧ WD D g base T.2.1 T.2.2.1 T.2.2.2 t.heap) ∧ va_F (fun q => base ≤ q) st t
def AMc (y : MethodName) (M : MT) (av : List Value) (n : Nat) (R : Rg) (σ : Sg) (T : TT) : Prop := ∀ (l : Launch) (D : va_G) (g : CG) (tw base : Nat),
  Met l y (.code y M.2.1 M.2.2.1 M.2.2.2.1 :: wT) (roomOf M.2.2.2.2 n T.2.1) (va_Pc (av.map (cv base)) (fun U => WD D g base n R σ U.heap ∧ KS D g tw base U U.heap)) (QC D g base T) (T.2.1 - n) (szs T.2.1 - szs n) (fun q => base ≤ q)
/-- locals by their places -/
def lvA (base : Nat) : Nat → List (Option Value) → List (Nat × Value)
  | _, [] => []
  | k, none :: r => lvA base (k + 1) r
  | k, some v :: r => (k, cv base v) :: lvA base (k + 1) r
theorem lvA_mem {base : Nat} : ∀ {L : List (Option Value)} {k : Nat} {q : Nat × Value}, q ∈ lvA base k L ↔ ∃ i v, L[i]? = some (some v) ∧ q = (k + i, cv base v)
  | [], k, q => by simp [lvA]
  | none :: r, k, q => by
    rw [lvA, lvA_mem]
    constructor
    · rintro ⟨i, v, h1, h2⟩
      exact ⟨i + 1, v, by simpa using h1, by rw [h2]; congr 1; omega⟩
    · rintro ⟨i, v, h1, h2⟩
      cases i with
      | zero => simp at h1
      | succ i => exact ⟨i, v, by simpa using h1, by rw [h2]; congr 1; omega⟩
  | some w :: r, k, q => by
    rw [lvA, List.mem_cons, lvA_mem]
    constructor
    · rintro (h | ⟨i, v, h1, h2⟩)
      · exact ⟨0, w, by simp, by rw [h]; simp⟩
      · exact ⟨i + 1, v, by simpa using h1, by rw [h2]; congr 1; omega⟩
    · rintro ⟨i, v, h1, h2⟩
      cases i with
      | zero =>
        left
        simp at h1
        rw [h2, h1]; simp
      | succ i => exact Or.inr ⟨i, v, by simpa using h1, by rw [h2]; congr 1; omega⟩
abbrev KT : Type := (Program × Launch × Env × State × MethodId) × (Array Value × List Frame × Method × Code) × va_G × CG × Nat × Nat × Nat
def KOK (K : KT) (M : MT) (T : TT) (nn : Nat) : Prop := match K with
  | ((p, l, e, s, m), (args, below, meth, c), D, g, tw, base, n0) => p.tables.exec = Jvm.exec ∧ c.code = M.2.1 ∧ meth.sig.returnType = M.2.2.2.1 ∧ c.maxLocals = M.2.2.1 ∧ s.vm.findClass M.1 = some m.cls ∧ (∀ w ∈ wT, w.before args s = true) ∧ KS D g tw base s s.heap ∧ meth.locks = false ∧ base ≤ s.heap.size ∧ n0 ≤ nn ∧ nn ≤ T.2.1
def AW (K : KT) (M : MT) (T : TT) (pc : Nat) (L : List (Option Value)) (st : List Value) (n : Nat) (R : Rg) (σ : Sg) : Prop := KOK K M T n → match K with
  | ((p, l, e, s, m), (args, below, meth, c), D, g, tw, base, n0) => ∀ (H : Heap) (locs : List Loc) (ls : Array Slot), WD D g base n R σ H → va_S (fun q => base ≤ q) s.heap H locs → lv_has ls M.2.2.1 (lvA base 0 L) →
      W p l e (roomOf M.2.2.2.2 n0 T.2.1) s m args below meth c H locs (n - n0) (szs n - szs n0) (MQ below (QC D g base T) args s (T.2.1 - n0) (szs T.2.1 - szs n0) (fun q => base ≤ q)) (F0 m pc ls (st.map (cv base)))

theorem aw_iconst {K : KT} {M : MT} {T : TT} {pc : Nat} {L : List (Option Value)} {st : List Value} {n : Nat} {R : Rg} {σ : Sg} {k : Int} {v : Int32} (hv : Int32.ofInt k = v) (hd : decode M.2.1 pc = .ok (.iconst k, 1)) (h : AW K M T (pc + 1) L (.int v :: st) n R σ) : AW K M T pc L (st) n R σ := by
  obtain ⟨⟨p, l, e, s, m⟩, ⟨args, below, meth, c⟩, D, g, tw, base, n0⟩ := K
  intro ok H locs ls hW hS hl
  exact lv_iconst ok.1 ok.2.1 hd hv (h ok H locs ls hW hS hl)
theorem aw_bipush {K : KT} {M : MT} {T : TT} {pc : Nat} {L : List (Option Value)} {st : List Value} {n : Nat} {R : Rg} {σ : Sg} {k : Int} {v : Int32} (hv : (Int8.ofInt k).toInt32 = v) (hd : decode M.2.1 pc = .ok (.bipush k, 2)) (h : AW K M T (pc + 2) L (.int v :: st) n R σ) : AW K M T pc L (st) n R σ := by
  obtain ⟨⟨p, l, e, s, m⟩, ⟨args, below, meth, c⟩, D, g, tw, base, n0⟩ := K
  intro ok H locs ls hW hS hl
  exact lv_bipush ok.1 ok.2.1 hd hv (h ok H locs ls hW hS hl)
theorem aw_sipush {K : KT} {M : MT} {T : TT} {pc : Nat} {L : List (Option Value)} {st : List Value} {n : Nat} {R : Rg} {σ : Sg} {k : Int} {v : Int32} (hv : (Int16.ofInt k).toInt32 = v) (hd : decode M.2.1 pc = .ok (.sipush k, 3)) (h : AW K M T (pc + 3) L (.int v :: st) n R σ) : AW K M T pc L (st) n R σ := by
  obtain ⟨⟨p, l, e, s, m⟩, ⟨args, below, meth, c⟩, D, g, tw, base, n0⟩ := K
  intro ok H locs ls hW hS hl
  exact lv_sipush ok.1 ok.2.1 hd hv (h ok H locs ls hW hS hl)
theorem aw_lconst {K : KT} {M : MT} {T : TT} {pc : Nat} {L : List (Option Value)} {st : List Value} {n : Nat} {R : Rg} {σ : Sg} {k : Fin 2} {v : Int64} (hv : Int64.ofNat (k : Nat) = v) (hd : decode M.2.1 pc = .ok (.lconst k, 1)) (h : AW K M T (pc + 1) L (.long v :: st) n R σ) : AW K M T pc L (st) n R σ := by
  obtain ⟨⟨p, l, e, s, m⟩, ⟨args, below, meth, c⟩, D, g, tw, base, n0⟩ := K
  intro ok H locs ls hW hS hl
  exact lv_lconst ok.1 ok.2.1 hd hv (h ok H locs ls hW hS hl)
theorem aw_iadd {K : KT} {M : MT} {T : TT} {pc : Nat} {L : List (Option Value)} {st : List Value} {n : Nat} {R : Rg} {σ : Sg} {x y : Int32} (hd : decode M.2.1 pc = .ok (.iadd, 1)) (h : AW K M T (pc + 1) L (.int (x + y) :: st) n R σ) : AW K M T pc L (.int y :: .int x :: st) n R σ := by
  obtain ⟨⟨p, l, e, s, m⟩, ⟨args, below, meth, c⟩, D, g, tw, base, n0⟩ := K
  intro ok H locs ls hW hS hl
  exact lv_iadd ok.1 ok.2.1 hd (h ok H locs ls hW hS hl)
theorem aw_isub {K : KT} {M : MT} {T : TT} {pc : Nat} {L : List (Option Value)} {st : List Value} {n : Nat} {R : Rg} {σ : Sg} {x y : Int32} (hd : decode M.2.1 pc = .ok (.isub, 1)) (h : AW K M T (pc + 1) L (.int (x - y) :: st) n R σ) : AW K M T pc L (.int y :: .int x :: st) n R σ := by
  obtain ⟨⟨p, l, e, s, m⟩, ⟨args, below, meth, c⟩, D, g, tw, base, n0⟩ := K
  intro ok H locs ls hW hS hl
  exact lv_isub ok.1 ok.2.1 hd (h ok H locs ls hW hS hl)
theorem aw_imul {K : KT} {M : MT} {T : TT} {pc : Nat} {L : List (Option Value)} {st : List Value} {n : Nat} {R : Rg} {σ : Sg} {x y : Int32} (hd : decode M.2.1 pc = .ok (.imul, 1)) (h : AW K M T (pc + 1) L (.int (x * y) :: st) n R σ) : AW K M T pc L (.int y :: .int x :: st) n R σ := by
  obtain ⟨⟨p, l, e, s, m⟩, ⟨args, below, meth, c⟩, D, g, tw, base, n0⟩ := K
  intro ok H locs ls hW hS hl
  exact lv_imul ok.1 ok.2.1 hd (h ok H locs ls hW hS hl)
theorem aw_iand {K : KT} {M : MT} {T : TT} {pc : Nat} {L : List (Option Value)} {st : List Value} {n : Nat} {R : Rg} {σ : Sg} {x y : Int32} (hd : decode M.2.1 pc = .ok (.iand, 1)) (h : AW K M T (pc + 1) L (.int (x &&& y) :: st) n R σ) : AW K M T pc L (.int y :: .int x :: st) n R σ := by
  obtain ⟨⟨p, l, e, s, m⟩, ⟨args, below, meth, c⟩, D, g, tw, base, n0⟩ := K
  intro ok H locs ls hW hS hl
  exact lv_iand ok.1 ok.2.1 hd (h ok H locs ls hW hS hl)
theorem aw_ior {K : KT} {M : MT} {T : TT} {pc : Nat} {L : List (Option Value)} {st : List Value} {n : Nat} {R : Rg} {σ : Sg} {x y : Int32} (hd : decode M.2.1 pc = .ok (.ior, 1)) (h : AW K M T (pc + 1) L (.int (x ||| y) :: st) n R σ) : AW K M T pc L (.int y :: .int x :: st) n R σ := by
  obtain ⟨⟨p, l, e, s, m⟩, ⟨args, below, meth, c⟩, D, g, tw, base, n0⟩ := K
  intro ok H locs ls hW hS hl
  exact lv_ior ok.1 ok.2.1 hd (h ok H locs ls hW hS hl)
theorem aw_ixor {K : KT} {M : MT} {T : TT} {pc : Nat} {L : List (Option Value)} {st : List Value} {n : Nat} {R : Rg} {σ : Sg} {x y : Int32} (hd : decode M.2.1 pc = .ok (.ixor, 1)) (h : AW K M T (pc + 1) L (.int (x ^^^ y) :: st) n R σ) : AW K M T pc L (.int y :: .int x :: st) n R σ := by
  obtain ⟨⟨p, l, e, s, m⟩, ⟨args, below, meth, c⟩, D, g, tw, base, n0⟩ := K
  intro ok H locs ls hW hS hl
  exact lv_ixor ok.1 ok.2.1 hd (h ok H locs ls hW hS hl)
theorem aw_ishl {K : KT} {M : MT} {T : TT} {pc : Nat} {L : List (Option Value)} {st : List Value} {n : Nat} {R : Rg} {σ : Sg} {x y : Int32} (hd : decode M.2.1 pc = .ok (.ishl, 1)) (h : AW K M T (pc + 1) L (.int (x <<< (y &&& 31)) :: st) n R σ) : AW K M T pc L (.int y :: .int x :: st) n R σ := by
  obtain ⟨⟨p, l, e, s, m⟩, ⟨args, below, meth, c⟩, D, g, tw, base, n0⟩ := K
  intro ok H locs ls hW hS hl
  exact lv_ishl ok.1 ok.2.1 hd (h ok H locs ls hW hS hl)
theorem aw_ishr {K : KT} {M : MT} {T : TT} {pc : Nat} {L : List (Option Value)} {st : List Value} {n : Nat} {R : Rg} {σ : Sg} {x y : Int32} (hd : decode M.2.1 pc = .ok (.ishr, 1)) (h : AW K M T (pc + 1) L (.int (x >>> (y &&& 31)) :: st) n R σ) : AW K M T pc L (.int y :: .int x :: st) n R σ := by
  obtain ⟨⟨p, l, e, s, m⟩, ⟨args, below, meth, c⟩, D, g, tw, base, n0⟩ := K
  intro ok H locs ls hW hS hl
  exact lv_ishr ok.1 ok.2.1 hd (h ok H locs ls hW hS hl)
theorem aw_idiv {K : KT} {M : MT} {T : TT} {pc : Nat} {L : List (Option Value)} {st : List Value} {n : Nat} {R : Rg} {σ : Sg} {x y : Int32} (hne : ¬ y = 0) (hd : decode M.2.1 pc = .ok (.idiv, 1)) (h : AW K M T (pc + 1) L (.int (x / y) :: st) n R σ) : AW K M T pc L (.int y :: .int x :: st) n R σ := by
  obtain ⟨⟨p, l, e, s, m⟩, ⟨args, below, meth, c⟩, D, g, tw, base, n0⟩ := K
  intro ok H locs ls hW hS hl
  exact lv_idiv ok.1 ok.2.1 hd hne (h ok H locs ls hW hS hl)
theorem aw_irem {K : KT} {M : MT} {T : TT} {pc : Nat} {L : List (Option Value)} {st : List Value} {n : Nat} {R : Rg} {σ : Sg} {x y : Int32} (hne : ¬ y = 0) (hd : decode M.2.1 pc = .ok (.irem, 1)) (h : AW K M T (pc + 1) L (.int (x % y) :: st) n R σ) : AW K M T pc L (.int y :: .int x :: st) n R σ := by
  obtain ⟨⟨p, l, e, s, m⟩, ⟨args, below, meth, c⟩, D, g, tw, base, n0⟩ := K
  intro ok H locs ls hW hS hl
  exact lv_irem ok.1 ok.2.1 hd hne (h ok H locs ls hW hS hl)
theorem aw_ladd {K : KT} {M : MT} {T : TT} {pc : Nat} {L : List (Option Value)} {st : List Value} {n : Nat} {R : Rg} {σ : Sg} {x y : Int64} (hd : decode M.2.1 pc = .ok (.ladd, 1)) (h : AW K M T (pc + 1) L (.long (x + y) :: st) n R σ) : AW K M T pc L (.long y :: .long x :: st) n R σ := by
  obtain ⟨⟨p, l, e, s, m⟩, ⟨args, below, meth, c⟩, D, g, tw, base, n0⟩ := K
  intro ok H locs ls hW hS hl
  exact lv_ladd ok.1 ok.2.1 hd (h ok H locs ls hW hS hl)
theorem aw_lmul {K : KT} {M : MT} {T : TT} {pc : Nat} {L : List (Option Value)} {st : List Value} {n : Nat} {R : Rg} {σ : Sg} {x y : Int64} (hd : decode M.2.1 pc = .ok (.lmul, 1)) (h : AW K M T (pc + 1) L (.long (x * y) :: st) n R σ) : AW K M T pc L (.long y :: .long x :: st) n R σ := by
  obtain ⟨⟨p, l, e, s, m⟩, ⟨args, below, meth, c⟩, D, g, tw, base, n0⟩ := K
  intro ok H locs ls hW hS hl
  exact lv_lmul ok.1 ok.2.1 hd (h ok H locs ls hW hS hl)
theorem aw_ldiv {K : KT} {M : MT} {T : TT} {pc : Nat} {L : List (Option Value)} {st : List Value} {n : Nat} {R : Rg} {σ : Sg} {x y : Int64} (hne : ¬ y = 0) (hd : decode M.2.1 pc = .ok (.ldiv, 1)) (h : AW K M T (pc + 1) L (.long (x / y) :: st) n R σ) : AW K M T pc L (.long y :: .long x :: st) n R σ := by
  obtain ⟨⟨p, l, e, s, m⟩, ⟨args, below, meth, c⟩, D, g, tw, base, n0⟩ := K
  intro ok H locs ls hW hS hl
  exact lv_ldiv ok.1 ok.2.1 hd hne (h ok H locs ls hW hS hl)
theorem aw_lrem {K : KT} {M : MT} {T : TT} {pc : Nat} {L : List (Option Value)} {st : List Value} {n : Nat} {R : Rg} {σ : Sg} {x y : Int64} (hne : ¬ y = 0) (hd : decode M.2.1 pc = .ok (.lrem, 1)) (h : AW K M T (pc + 1) L (.long (x % y) :: st) n R σ) : AW K M T pc L (.long y :: .long x :: st) n R σ := by
  obtain ⟨⟨p, l, e, s, m⟩, ⟨args, below, meth, c⟩, D, g, tw, base, n0⟩ := K
  intro ok H locs ls hW hS hl
  exact lv_lrem ok.1 ok.2.1 hd hne (h ok H locs ls hW hS hl)
theorem aw_lcmp {K : KT} {M : MT} {T : TT} {pc : Nat} {L : List (Option Value)} {st : List Value} {n : Nat} {R : Rg} {σ : Sg} {x y : Int64} (hd : decode M.2.1 pc = .ok (.lcmp, 1)) (h : AW K M T (pc + 1) L (.int (lg_cmp x y) :: st) n R σ) : AW K M T pc L (.long y :: .long x :: st) n R σ := by
  obtain ⟨⟨p, l, e, s, m⟩, ⟨args, below, meth, c⟩, D, g, tw, base, n0⟩ := K
  intro ok H locs ls hW hS hl
  exact W.lcmp ok.1 ok.2.1 hd (h ok H locs ls hW hS hl)
theorem aw_ineg {K : KT} {M : MT} {T : TT} {pc : Nat} {L : List (Option Value)} {st : List Value} {n : Nat} {R : Rg} {σ : Sg} {x : Int32} (hd : decode M.2.1 pc = .ok (.ineg, 1)) (h : AW K M T (pc + 1) L (.int (-x) :: st) n R σ) : AW K M T pc L (.int x :: st) n R σ := by
  obtain ⟨⟨p, l, e, s, m⟩, ⟨args, below, meth, c⟩, D, g, tw, base, n0⟩ := K
  intro ok H locs ls hW hS hl
  exact lv_ineg ok.1 ok.2.1 hd (h ok H locs ls hW hS hl)
theorem aw_i2l {K : KT} {M : MT} {T : TT} {pc : Nat} {L : List (Option Value)} {st : List Value} {n : Nat} {R : Rg} {σ : Sg} {x : Int32} (hd : decode M.2.1 pc = .ok (.i2l, 1)) (h : AW K M T (pc + 1) L (.long x.toInt64 :: st) n R σ) : AW K M T pc L (.int x :: st) n R σ := by
  obtain ⟨⟨p, l, e, s, m⟩, ⟨args, below, meth, c⟩, D, g, tw, base, n0⟩ := K
  intro ok H locs ls hW hS hl
  exact lv_i2l ok.1 ok.2.1 hd rfl (h ok H locs ls hW hS hl)
theorem aw_l2i {K : KT} {M : MT} {T : TT} {pc : Nat} {L : List (Option Value)} {st : List Value} {n : Nat} {R : Rg} {σ : Sg} {x : Int64} (hd : decode M.2.1 pc = .ok (.l2i, 1)) (h : AW K M T (pc + 1) L (.int x.toInt32 :: st) n R σ) : AW K M T pc L (.long x :: st) n R σ := by
  obtain ⟨⟨p, l, e, s, m⟩, ⟨args, below, meth, c⟩, D, g, tw, base, n0⟩ := K
  intro ok H locs ls hW hS hl
  exact lv_l2i ok.1 ok.2.1 hd rfl (h ok H locs ls hW hS hl)
theorem aw_null {K : KT} {M : MT} {T : TT} {pc : Nat} {L : List (Option Value)} {st : List Value} {n : Nat} {R : Rg} {σ : Sg}  (hd : decode M.2.1 pc = .ok (.aconst_null, 1)) (h : AW K M T (pc + 1) L (.null :: st) n R σ) : AW K M T pc L (st) n R σ := by
  obtain ⟨⟨p, l, e, s, m⟩, ⟨args, below, meth, c⟩, D, g, tw, base, n0⟩ := K
  intro ok H locs ls hW hS hl
  exact lv_null ok.1 ok.2.1 hd (h ok H locs ls hW hS hl)
theorem aw_dup {K : KT} {M : MT} {T : TT} {pc : Nat} {L : List (Option Value)} {st : List Value} {n : Nat} {R : Rg} {σ : Sg} {v : Value} (hv : v.category = 1) (hd : decode M.2.1 pc = .ok (.dup, 1)) (h : AW K M T (pc + 1) L (v :: v :: st) n R σ) : AW K M T pc L (v :: st) n R σ := by
  obtain ⟨⟨p, l, e, s, m⟩, ⟨args, below, meth, c⟩, D, g, tw, base, n0⟩ := K
  intro ok H locs ls hW hS hl
  exact lv_dup ok.1 ok.2.1 hd (by rw [cv_cat]; exact hv) (h ok H locs ls hW hS hl)
theorem aw_pop {K : KT} {M : MT} {T : TT} {pc : Nat} {L : List (Option Value)} {st : List Value} {n : Nat} {R : Rg} {σ : Sg} {v : Value} (hv : v.category = 1) (hd : decode M.2.1 pc = .ok (.pop, 1)) (h : AW K M T (pc + 1) L (st) n R σ) : AW K M T pc L (v :: st) n R σ := by
  obtain ⟨⟨p, l, e, s, m⟩, ⟨args, below, meth, c⟩, D, g, tw, base, n0⟩ := K
  intro ok H locs ls hW hS hl
  exact lv_pop ok.1 ok.2.1 hd (by rw [cv_cat]; exact hv) (h ok H locs ls hW hS hl)
theorem aw_dup2 {K : KT} {M : MT} {T : TT} {pc : Nat} {L : List (Option Value)} {st : List Value} {n : Nat} {R : Rg} {σ : Sg} {v w : Value} (hv : v.category = 1) (hw : w.category = 1) (hd : decode M.2.1 pc = .ok (.dup2, 1)) (h : AW K M T (pc + 1) L (v :: w :: v :: w :: st) n R σ) : AW K M T pc L (v :: w :: st) n R σ := by
  obtain ⟨⟨p, l, e, s, m⟩, ⟨args, below, meth, c⟩, D, g, tw, base, n0⟩ := K
  intro ok H locs ls hW hS hl
  exact lv_dup2_11 ok.1 ok.2.1 hd (by rw [cv_cat]; exact hv) (by rw [cv_cat]; exact hw) (h ok H locs ls hW hS hl)
theorem aw_dup2L {K : KT} {M : MT} {T : TT} {pc : Nat} {L : List (Option Value)} {st : List Value} {n : Nat} {R : Rg} {σ : Sg} {v : Value} (hv : v.category = 2) (hd : decode M.2.1 pc = .ok (.dup2, 1)) (h : AW K M T (pc + 1) L (v :: v :: st) n R σ) : AW K M T pc L (v :: st) n R σ := by
  obtain ⟨⟨p, l, e, s, m⟩, ⟨args, below, meth, c⟩, D, g, tw, base, n0⟩ := K
  intro ok H locs ls hW hS hl
  exact lv_dup2_2 ok.1 ok.2.1 hd (by rw [cv_cat]; exact hv) (h ok H locs ls hW hS hl)
theorem aw_goto {K : KT} {M : MT} {T : TT} {pc : Nat} {L : List (Option Value)} {st : List Value} {n : Nat} {R : Rg} {σ : Sg} {off : Int} {tgt : Nat} (hd : decode M.2.1 pc = .ok (.goto off, 3)) (ht : (pc : Int) + off = (tgt : Int)) (h : AW K M T tgt L st n R σ) : AW K M T pc L st n R σ := by
  obtain ⟨⟨p, l, e, s, m⟩, ⟨args, below, meth, c⟩, D, g, tw, base, n0⟩ := K
  intro ok H locs ls hW hS hl
  exact lv_goto ok.1 ok.2.1 hd ht (h ok H locs ls hW hS hl)
theorem aw_if_eq {K : KT} {M : MT} {T : TT} {pc : Nat} {L : List (Option Value)} {st : List Value} {n : Nat} {R : Rg} {σ : Sg} {x : Int32} {off : Int} {tgt : Nat} (hd : decode M.2.1 pc = .ok (.ifCond .eq off, 3)) (ht : (pc : Int) + off = (tgt : Int)) (h1 : x = 0 → AW K M T tgt L st n R σ) (h2 : ¬ x = 0 → AW K M T (pc + 3) L st n R σ) : AW K M T pc L (.int x :: st) n R σ := by
  obtain ⟨⟨p, l, e, s, m⟩, ⟨args, below, meth, c⟩, D, g, tw, base, n0⟩ := K
  intro ok H locs ls hW hS hl
  exact lv_if_eq ok.1 ok.2.1 hd ht (fun z => h1 z ok H locs ls hW hS hl) (fun z => h2 z ok H locs ls hW hS hl)
theorem aw_icmp_eq {K : KT} {M : MT} {T : TT} {pc : Nat} {L : List (Option Value)} {st : List Value} {n : Nat} {R : Rg} {σ : Sg} {x y : Int32} {off : Int} {tgt : Nat} (hd : decode M.2.1 pc = .ok (.if_icmp .eq off, 3)) (ht : (pc : Int) + off = (tgt : Int)) (h1 : x = y → AW K M T tgt L st n R σ) (h2 : ¬ x = y → AW K M T (pc + 3) L st n R σ) : AW K M T pc L (.int y :: .int x :: st) n R σ := by
  obtain ⟨⟨p, l, e, s, m⟩, ⟨args, below, meth, c⟩, D, g, tw, base, n0⟩ := K
  intro ok H locs ls hW hS hl
  exact lv_icmp_eq ok.1 ok.2.1 hd ht (fun z => h1 z ok H locs ls hW hS hl) (fun z => h2 z ok H locs ls hW hS hl)
theorem aw_if_ne {K : KT} {M : MT} {T : TT} {pc : Nat} {L : List (Option Value)} {st : List Value} {n : Nat} {R : Rg} {σ : Sg} {x : Int32} {off : Int} {tgt : Nat} (hd : decode M.2.1 pc = .ok (.ifCond .ne off, 3)) (ht : (pc : Int) + off = (tgt : Int)) (h1 : ¬ x = 0 → AW K M T tgt L st n R σ) (h2 : x = 0 → AW K M T (pc + 3) L st n R σ) : AW K M T pc L (.int x :: st) n R σ := by
  obtain ⟨⟨p, l, e, s, m⟩, ⟨args, below, meth, c⟩, D, g, tw, base, n0⟩ := K
  intro ok H locs ls hW hS hl
  exact lv_if_ne ok.1 ok.2.1 hd ht (fun z => h1 z ok H locs ls hW hS hl) (fun z => h2 z ok H locs ls hW hS hl)
theorem aw_icmp_ne {K : KT} {M : MT} {T : TT} {pc : Nat} {L : List (Option Value)} {st : List Value} {n : Nat} {R : Rg} {σ : Sg} {x y : Int32} {off : Int} {tgt : Nat} (hd : decode M.2.1 pc = .ok (.if_icmp .ne off, 3)) (ht : (pc : Int) + off = (tgt : Int)) (h1 : ¬ x = y → AW K M T tgt L st n R σ) (h2 : x = y → AW K M T (pc + 3) L st n R σ) : AW K M T pc L (.int y :: .int x :: st) n R σ := by
  obtain ⟨⟨p, l, e, s, m⟩, ⟨args, below, meth, c⟩, D, g, tw, base, n0⟩ := K
  intro ok H locs ls hW hS hl
  exact lv_icmp_ne ok.1 ok.2.1 hd ht (fun z => h1 z ok H locs ls hW hS hl) (fun z => h2 z ok H locs ls hW hS hl)
theorem aw_if_lt {K : KT} {M : MT} {T : TT} {pc : Nat} {L : List (Option Value)} {st : List Value} {n : Nat} {R : Rg} {σ : Sg} {x : Int32} {off : Int} {tgt : Nat} (hd : decode M.2.1 pc = .ok (.ifCond .lt off, 3)) (ht : (pc : Int) + off = (tgt : Int)) (h1 : x < 0 → AW K M T tgt L st n R σ) (h2 : ¬ x < 0 → AW K M T (pc + 3) L st n R σ) : AW K M T pc L (.int x :: st) n R σ := by
  obtain ⟨⟨p, l, e, s, m⟩, ⟨args, below, meth, c⟩, D, g, tw, base, n0⟩ := K
  intro ok H locs ls hW hS hl
  exact lv_if_lt ok.1 ok.2.1 hd ht (fun z => h1 z ok H locs ls hW hS hl) (fun z => h2 z ok H locs ls hW hS hl)
theorem aw_icmp_lt {K : KT} {M : MT} {T : TT} {pc : Nat} {L : List (Option Value)} {st : List Value} {n : Nat} {R : Rg} {σ : Sg} {x y : Int32} {off : Int} {tgt : Nat} (hd : decode M.2.1 pc = .ok (.if_icmp .lt off, 3)) (ht : (pc : Int) + off = (tgt : Int)) (h1 : x < y → AW K M T tgt L st n R σ) (h2 : ¬ x < y → AW K M T (pc + 3) L st n R σ) : AW K M T pc L (.int y :: .int x :: st) n R σ := by
  obtain ⟨⟨p, l, e, s, m⟩, ⟨args, below, meth, c⟩, D, g, tw, base, n0⟩ := K
  intro ok H locs ls hW hS hl
  exact lv_icmp_lt ok.1 ok.2.1 hd ht (fun z => h1 z ok H locs ls hW hS hl) (fun z => h2 z ok H locs ls hW hS hl)
theorem aw_if_ge {K : KT} {M : MT} {T : TT} {pc : Nat} {L : List (Option Value)} {st : List Value} {n : Nat} {R : Rg} {σ : Sg} {x : Int32} {off : Int} {tgt : Nat} (hd : decode M.2.1 pc = .ok (.ifCond .ge off, 3)) (ht : (pc : Int) + off = (tgt : Int)) (h1 : 0 ≤ x → AW K M T tgt L st n R σ) (h2 : ¬ 0 ≤ x → AW K M T (pc + 3) L st n R σ) : AW K M T pc L (.int x :: st) n R σ := by
  obtain ⟨⟨p, l, e, s, m⟩, ⟨args, below, meth, c⟩, D, g, tw, base, n0⟩ := K
  intro ok H locs ls hW hS hl
  exact lv_if_ge ok.1 ok.2.1 hd ht (fun z => h1 z ok H locs ls hW hS hl) (fun z => h2 z ok H locs ls hW hS hl)
theorem aw_icmp_ge {K : KT} {M : MT} {T : TT} {pc : Nat} {L : List (Option Value)} {st : List Value} {n : Nat} {R : Rg} {σ : Sg} {x y : Int32} {off : Int} {tgt : Nat} (hd : decode M.2.1 pc = .ok (.if_icmp .ge off, 3)) (ht : (pc : Int) + off = (tgt : Int)) (h1 : y ≤ x → AW K M T tgt L st n R σ) (h2 : ¬ y ≤ x → AW K M T (pc + 3) L st n R σ) : AW K M T pc L (.int y :: .int x :: st) n R σ := by
  obtain ⟨⟨p, l, e, s, m⟩, ⟨args, below, meth, c⟩, D, g, tw, base, n0⟩ := K
  intro ok H locs ls hW hS hl
  exact lv_icmp_ge ok.1 ok.2.1 hd ht (fun z => h1 z ok H locs ls hW hS hl) (fun z => h2 z ok H locs ls hW hS hl)
theorem aw_if_gt {K : KT} {M : MT} {T : TT} {pc : Nat} {L : List (Option Value)} {st : List Value} {n : Nat} {R : Rg} {σ : Sg} {x : Int32} {off : Int} {tgt : Nat} (hd : decode M.2.1 pc = .ok (.ifCond .gt off, 3)) (ht : (pc : Int) + off = (tgt : Int)) (h1 : 0 < x → AW K M T tgt L st n R σ) (h2 : ¬ 0 < x → AW K M T (pc + 3) L st n R σ) : AW K M T pc L (.int x :: st) n R σ := by
  obtain ⟨⟨p, l, e, s, m⟩, ⟨args, below, meth, c⟩, D, g, tw, base, n0⟩ := K
  intro ok H locs ls hW hS hl
  exact lv_if_gt ok.1 ok.2.1 hd ht (fun z => h1 z ok H locs ls hW hS hl) (fun z => h2 z ok H locs ls hW hS hl)
theorem aw_icmp_gt {K : KT} {M : MT} {T : TT} {pc : Nat} {L : List (Option Value)} {st : List Value} {n : Nat} {R : Rg} {σ : Sg} {x y : Int32} {off : Int} {tgt : Nat} (hd : decode M.2.1 pc = .ok (.if_icmp .gt off, 3)) (ht : (pc : Int) + off = (tgt : Int)) (h1 : y < x → AW K M T tgt L st n R σ) (h2 : ¬ y < x → AW K M T (pc + 3) L st n R σ) : AW K M T pc L (.int y :: .int x :: st) n R σ := by
  obtain ⟨⟨p, l, e, s, m⟩, ⟨args, below, meth, c⟩, D, g, tw, base, n0⟩ := K
  intro ok H locs ls hW hS hl
  exact lv_icmp_gt ok.1 ok.2.1 hd ht (fun z => h1 z ok H locs ls hW hS hl) (fun z => h2 z ok H locs ls hW hS hl)
theorem aw_if_le {K : KT} {M : MT} {T : TT} {pc : Nat} {L : List (Option Value)} {st : List Value} {n : Nat} {R : Rg} {σ : Sg} {x : Int32} {off : Int} {tgt : Nat} (hd : decode M.2.1 pc = .ok (.ifCond .le off, 3)) (ht : (pc : Int) + off = (tgt : Int)) (h1 : x ≤ 0 → AW K M T tgt L st n R σ) (h2 : ¬ x ≤ 0 → AW K M T (pc + 3) L st n R σ) : AW K M T pc L (.int x :: st) n R σ := by
  obtain ⟨⟨p, l, e, s, m⟩, ⟨args, below, meth, c⟩, D, g, tw, base, n0⟩ := K
  intro ok H locs ls hW hS hl
  exact lv_if_le ok.1 ok.2.1 hd ht (fun z => h1 z ok H locs ls hW hS hl) (fun z => h2 z ok H locs ls hW hS hl)
theorem aw_icmp_le {K : KT} {M : MT} {T : TT} {pc : Nat} {L : List (Option Value)} {st : List Value} {n : Nat} {R : Rg} {σ : Sg} {x y : Int32} {off : Int} {tgt : Nat} (hd : decode M.2.1 pc = .ok (.if_icmp .le off, 3)) (ht : (pc : Int) + off = (tgt : Int)) (h1 : x ≤ y → AW K M T tgt L st n R σ) (h2 : ¬ x ≤ y → AW K M T (pc + 3) L st n R σ) : AW K M T pc L (.int y :: .int x :: st) n R σ := by
  obtain ⟨⟨p, l, e, s, m⟩, ⟨args, below, meth, c⟩, D, g, tw, base, n0⟩ := K
  intro ok H locs ls hW hS hl
  exact lv_icmp_le ok.1 ok.2.1 hd ht (fun z => h1 z ok H locs ls hW hS hl) (fun z => h2 z ok H locs ls hW hS hl)
theorem lvA_get {base : Nat} {L : List (Option Value)} {ls : Array Slot} {nL i : Nat} {v : Value} (hl : lv_has ls nL (lvA base 0 L)) (h : L[i]? = some (some v)) : ls[i]? = some (.val (cv base v)) :=
  hl.2.2 (i, cv base v) (lvA_mem.mpr ⟨i, v, h, by simp⟩)
def okc (v : Option Value) : Bool := match v with
  | some (.long _) => false
  | some (.double _) => false
  | _ => true
theorem okc_cat {v : Value} (h : okc (some v) = true) : v.category = 1 := by cases v <;> first | rfl | cases h
theorem lvA_set1 {base : Nat} {L : List (Option Value)} {ls : Array Slot} {nL i : Nat} {v : Value} (hp : ∀ w, 0 < i → L[i - 1]? = some w → okc w = true) (hi : i < L.length) (hl : lv_has ls nL ((i, cv base v) :: (lvA base 0 L).filter (fun q => !(q.1 == i) && !(q.1 + 1 == i && q.2.category == 2)))) : lv_has ls nL (lvA base 0 (L.set i (some v))) := by
  refine ⟨hl.1, hl.2.1, fun q hq => hl.2.2 q ?_⟩
  obtain ⟨j, w, h1, rfl⟩ := lvA_mem.mp hq
  by_cases hj : j = i
  · subst hj
    rw [List.getElem?_set_self hi] at h1
    cases h1
    simp
  · rw [List.getElem?_set_ne (Ne.symm hj)] at h1
    refine List.mem_cons_of_mem _ (List.mem_filter.mpr ⟨lvA_mem.mpr ⟨j, w, h1, rfl⟩, ?_⟩)
    by_cases h2 : j + 1 = i
    · have h3 := okc_cat (hp (some w) (by omega) (by rw [← h1]; congr 1; omega))
      simp [hj, cv_cat, h3]
    · simp [hj, h2]
theorem lvA_set2 {base : Nat} {L : List (Option Value)} {ls : Array Slot} {nL i : Nat} {v : Value} (hp : ∀ w, 0 < i → L[i - 1]? = some w → okc w = true) (hi : i + 1 < L.length) (hl : lv_has ls nL ((i, cv base v) :: (lvA base 0 L).filter (fun q => !(q.1 == i) && (!(q.1 == i + 1) && !(q.1 + 1 == i && q.2.category == 2))))) : lv_has ls nL (lvA base 0 ((L.set i (some v)).set (i + 1) none)) := by
  refine ⟨hl.1, hl.2.1, fun q hq => hl.2.2 q ?_⟩
  obtain ⟨j, w, h1, rfl⟩ := lvA_mem.mp hq
  by_cases hj1 : j = i + 1
  · subst hj1
    rw [List.getElem?_set_self (by simpa using hi)] at h1
    cases h1
  rw [List.getElem?_set_ne (Ne.symm hj1)] at h1
  by_cases hj : j = i
  · subst hj
    rw [List.getElem?_set_self (by omega)] at h1
    cases h1
    simp
  · rw [List.getElem?_set_ne (Ne.symm hj)] at h1
    refine List.mem_cons_of_mem _ (List.mem_filter.mpr ⟨lvA_mem.mpr ⟨j, w, h1, rfl⟩, ?_⟩)
    by_cases h2 : j + 1 = i
    · have h3 := okc_cat (hp (some w) (by omega) (by rw [← h1]; congr 1; omega))
      simp [hj, hj1, cv_cat, h3]
    · simp [hj, hj1, h2]
theorem lvA_drop {base : Nat} {L L' : List (Option Value)} {ls : Array Slot} {nL : Nat} (h : ∀ i w, L'[i]? = some (some w) → L[i]? = some (some w)) (hl : lv_has ls nL (lvA base 0 L)) : lv_has ls nL (lvA base 0 L') := by
  refine ⟨hl.1, hl.2.1, fun q hq => hl.2.2 q ?_⟩
  obtain ⟨j, w, h1, rfl⟩ := lvA_mem.mp hq
  exact lvA_mem.mpr ⟨j, w, h j w h1, rfl⟩
theorem aw_iload_0 {K : KT} {M : MT} {T : TT} {pc : Nat} {st : List Value} {n : Nat} {R : Rg} {σ : Sg} {r : List (Option Value)} {x : Int32} (hd : decode M.2.1 pc = .ok (.iload_n 0, 1)) (h : AW K M T (pc + 1) (some (.int x) :: r) (.int x :: st) n R σ) : AW K M T pc (some (.int x) :: r) st n R σ := by
  obtain ⟨⟨p, l, e, s, m⟩, ⟨args, below, meth, c⟩, D, g, tw, base, n0⟩ := K
  intro ok H locs ls hW hS hl
  exact lv_iload_n ok.1 ok.2.1 hd rfl (lvA_get hl rfl) (h ok H locs ls hW hS hl)
theorem aw_iload_1 {K : KT} {M : MT} {T : TT} {pc : Nat} {st : List Value} {n : Nat} {R : Rg} {σ : Sg} {a0 : Option Value} {r : List (Option Value)} {x : Int32} (hd : decode M.2.1 pc = .ok (.iload_n 1, 1)) (h : AW K M T (pc + 1) (a0 :: some (.int x) :: r) (.int x :: st) n R σ) : AW K M T pc (a0 :: some (.int x) :: r) st n R σ := by
  obtain ⟨⟨p, l, e, s, m⟩, ⟨args, below, meth, c⟩, D, g, tw, base, n0⟩ := K
  intro ok H locs ls hW hS hl
  exact lv_iload_n ok.1 ok.2.1 hd rfl (lvA_get hl rfl) (h ok H locs ls hW hS hl)
theorem aw_iload_2 {K : KT} {M : MT} {T : TT} {pc : Nat} {st : List Value} {n : Nat} {R : Rg} {σ : Sg} {a0 a1 : Option Value} {r : List (Option Value)} {x : Int32} (hd : decode M.2.1 pc = .ok (.iload_n 2, 1)) (h : AW K M T (pc + 1) (a0 :: a1 :: some (.int x) :: r) (.int x :: st) n R σ) : AW K M T pc (a0 :: a1 :: some (.int x) :: r) st n R σ := by
  obtain ⟨⟨p, l, e, s, m⟩, ⟨args, below, meth, c⟩, D, g, tw, base, n0⟩ := K
  intro ok H locs ls hW hS hl
  exact lv_iload_n ok.1 ok.2.1 hd rfl (lvA_get hl rfl) (h ok H locs ls hW hS hl)
theorem aw_iload_3 {K : KT} {M : MT} {T : TT} {pc : Nat} {st : List Value} {n : Nat} {R : Rg} {σ : Sg} {a0 a1 a2 : Option Value} {r : List (Option Value)} {x : Int32} (hd : decode M.2.1 pc = .ok (.iload_n 3, 1)) (h : AW K M T (pc + 1) (a0 :: a1 :: a2 :: some (.int x) :: r) (.int x :: st) n R σ) : AW K M T pc (a0 :: a1 :: a2 :: some (.int x) :: r) st n R σ := by
  obtain ⟨⟨p, l, e, s, m⟩, ⟨args, below, meth, c⟩, D, g, tw, base, n0⟩ := K
  intro ok H locs ls hW hS hl
  exact lv_iload_n ok.1 ok.2.1 hd rfl (lvA_get hl rfl) (h ok H locs ls hW hS hl)
theorem aw_iload_4 {K : KT} {M : MT} {T : TT} {pc : Nat} {st : List Value} {n : Nat} {R : Rg} {σ : Sg} {a0 a1 a2 a3 : Option Value} {r : List (Option Value)} {x : Int32} (hd : decode M.2.1 pc = .ok (.iload 4, 2)) (h : AW K M T (pc + 2) (a0 :: a1 :: a2 :: a3 :: some (.int x) :: r) (.int x :: st) n R σ) : AW K M T pc (a0 :: a1 :: a2 :: a3 :: some (.int x) :: r) st n R σ := by
  obtain ⟨⟨p, l, e, s, m⟩, ⟨args, below, meth, c⟩, D, g, tw, base, n0⟩ := K
  intro ok H locs ls hW hS hl
  exact lv_iload ok.1 ok.2.1 hd (lvA_get hl rfl) (h ok H locs ls hW hS hl)
theorem aw_iload_5 {K : KT} {M : MT} {T : TT} {pc : Nat} {st : List Value} {n : Nat} {R : Rg} {σ : Sg} {a0 a1 a2 a3 a4 : Option Value} {r : List (Option Value)} {x : Int32} (hd : decode M.2.1 pc = .ok (.iload 5, 2)) (h : AW K M T (pc + 2) (a0 :: a1 :: a2 :: a3 :: a4 :: some (.int x) :: r) (.int x :: st) n R σ) : AW K M T pc (a0 :: a1 :: a2 :: a3 :: a4 :: some (.int x) :: r) st n R σ := by
  obtain ⟨⟨p, l, e, s, m⟩, ⟨args, below, meth, c⟩, D, g, tw, base, n0⟩ := K
  intro ok H locs ls hW hS hl
  exact lv_iload ok.1 ok.2.1 hd (lvA_get hl rfl) (h ok H locs ls hW hS hl)
theorem aw_iload_6 {K : KT} {M : MT} {T : TT} {pc : Nat} {st : List Value} {n : Nat} {R : Rg} {σ : Sg} {a0 a1 a2 a3 a4 a5 : Option Value} {r : List (Option Value)} {x : Int32} (hd : decode M.2.1 pc = .ok (.iload 6, 2)) (h : AW K M T (pc + 2) (a0 :: a1 :: a2 :: a3 :: a4 :: a5 :: some (.int x) :: r) (.int x :: st) n R σ) : AW K M T pc (a0 :: a1 :: a2 :: a3 :: a4 :: a5 :: some (.int x) :: r) st n R σ := by
  obtain ⟨⟨p, l, e, s, m⟩, ⟨args, below, meth, c⟩, D, g, tw, base, n0⟩ := K
  intro ok H locs ls hW hS hl
  exact lv_iload ok.1 ok.2.1 hd (lvA_get hl rfl) (h ok H locs ls hW hS hl)
theorem aw_iload_7 {K : KT} {M : MT} {T : TT} {pc : Nat} {st : List Value} {n : Nat} {R : Rg} {σ : Sg} {a0 a1 a2 a3 a4 a5 a6 : Option Value} {r : List (Option Value)} {x : Int32} (hd : decode M.2.1 pc = .ok (.iload 7, 2)) (h : AW K M T (pc + 2) (a0 :: a1 :: a2 :: a3 :: a4 :: a5 :: a6 :: some (.int x) :: r) (.int x :: st) n R σ) : AW K M T pc (a0 :: a1 :: a2 :: a3 :: a4 :: a5 :: a6 :: some (.int x) :: r) st n R σ := by
  obtain ⟨⟨p, l, e, s, m⟩, ⟨args, below, meth, c⟩, D, g, tw, base, n0⟩ := K
  intro ok H locs ls hW hS hl
  exact lv_iload ok.1 ok.2.1 hd (lvA_get hl rfl) (h ok H locs ls hW hS hl)
theorem aw_iload_8 {K : KT} {M : MT} {T : TT} {pc : Nat} {st : List Value} {n : Nat} {R : Rg} {σ : Sg} {a0 a1 a2 a3 a4 a5 a6 a7 : Option Value} {r : List (Option Value)} {x : Int32} (hd : decode M.2.1 pc = .ok (.iload 8, 2)) (h : AW K M T (pc + 2) (a0 :: a1 :: a2 :: a3 :: a4 :: a5 :: a6 :: a7 :: some (.int x) :: r) (.int x :: st) n R σ) : AW K M T pc (a0 :: a1 :: a2 :: a3 :: a4 :: a5 :: a6 :: a7 :: some (.int x) :: r) st n R σ := by
  obtain ⟨⟨p, l, e, s, m⟩, ⟨args, below, meth, c⟩, D, g, tw, base, n0⟩ := K
  intro ok H locs ls hW hS hl
  exact lv_iload ok.1 ok.2.1 hd (lvA_get hl rfl) (h ok H locs ls hW hS hl)
theorem aw_iload_9 {K : KT} {M : MT} {T : TT} {pc : Nat} {st : List Value} {n : Nat} {R : Rg} {σ : Sg} {a0 a1 a2 a3 a4 a5 a6 a7 a8 : Option Value} {r : List (Option Value)} {x : Int32} (hd : decode M.2.1 pc = .ok (.iload 9, 2)) (h : AW K M T (pc + 2) (a0 :: a1 :: a2 :: a3 :: a4 :: a5 :: a6 :: a7 :: a8 :: some (.int x) :: r) (.int x :: st) n R σ) : AW K M T pc (a0 :: a1 :: a2 :: a3 :: a4 :: a5 :: a6 :: a7 :: a8 :: some (.int x) :: r) st n R σ := by
  obtain ⟨⟨p, l, e, s, m⟩, ⟨args, below, meth, c⟩, D, g, tw, base, n0⟩ := K
  intro ok H locs ls hW hS hl
  exact lv_iload ok.1 ok.2.1 hd (lvA_get hl rfl) (h ok H locs ls hW hS hl)
theorem aw_iload_10 {K : KT} {M : MT} {T : TT} {pc : Nat} {st : List Value} {n : Nat} {R : Rg} {σ : Sg} {a0 a1 a2 a3 a4 a5 a6 a7 a8 a9 : Option Value} {r : List (Option Value)} {x : Int32} (hd : decode M.2.1 pc = .ok (.iload 10, 2)) (h : AW K M T (pc + 2) (a0 :: a1 :: a2 :: a3 :: a4 :: a5 :: a6 :: a7 :: a8 :: a9 :: some (.int x) :: r) (.int x :: st) n R σ) : AW K M T pc (a0 :: a1 :: a2 :: a3 :: a4 :: a5 :: a6 :: a7 :: a8 :: a9 :: some (.int x) :: r) st n R σ := by
  obtain ⟨⟨p, l, e, s, m⟩, ⟨args, below, meth, c⟩, D, g, tw, base, n0⟩ := K
  intro ok H locs ls hW hS hl
  exact lv_iload ok.1 ok.2.1 hd (lvA_get hl rfl) (h ok H locs ls hW hS hl)
theorem aw_iload_11 {K : KT} {M : MT} {T : TT} {pc : Nat} {st : List Value} {n : Nat} {R : Rg} {σ : Sg} {a0 a1 a2 a3 a4 a5 a6 a7 a8 a9 a10 : Option Value} {r : List (Option Value)} {x : Int32} (hd : decode M.2.1 pc = .ok (.iload 11, 2)) (h : AW K M T (pc + 2) (a0 :: a1 :: a2 :: a3 :: a4 :: a5 :: a6 :: a7 :: a8 :: a9 :: a10 :: some (.int x) :: r) (.int x :: st) n R σ) : AW K M T pc (a0 :: a1 :: a2 :: a3 :: a4 :: a5 :: a6 :: a7 :: a8 :: a9 :: a10 :: some (.int x) :: r) st n R σ := by
  obtain ⟨⟨p, l, e, s, m⟩, ⟨args, below, meth, c⟩, D, g, tw, base, n0⟩ := K
  intro ok H locs ls hW hS hl
  exact lv_iload ok.1 ok.2.1 hd (lvA_get hl rfl) (h ok H locs ls hW hS hl)
theorem aw_iload_12 {K : KT} {M : MT} {T : TT} {pc : Nat} {st : List Value} {n : Nat} {R : Rg} {σ : Sg} {a0 a1 a2 a3 a4 a5 a6 a7 a8 a9 a10 a11 : Option Value} {r : List (Option Value)} {x : Int32} (hd : decode M.2.1 pc = .ok (.iload 12, 2)) (h : AW K M T (pc + 2) (a0 :: a1 :: a2 :: a3 :: a4 :: a5 :: a6 :: a7 :: a8 :: a9 :: a10 :: a11 :: some (.int x) :: r) (.int x :: st) n R σ) : AW K M T pc (a0 :: a1 :: a2 :: a3 :: a4 :: a5 :: a6 :: a7 :: a8 :: a9 :: a10 :: a11 :: some (.int x) :: r) st n R σ := by
  obtain ⟨⟨p, l, e, s, m⟩, ⟨args, below, meth, c⟩, D, g, tw, base, n0⟩ := K
  intro ok H locs ls hW hS hl
  exact lv_iload ok.1 ok.2.1 hd (lvA_get hl rfl) (h ok H locs ls hW hS hl)
theorem aw_iload_13 {K : KT} {M : MT} {T : TT} {pc : Nat} {st : List Value} {n : Nat} {R : Rg} {σ : Sg} {a0 a1 a2 a3 a4 a5 a6 a7 a8 a9 a10 a11 a12 : Option Value} {r : List (Option Value)} {x : Int32} (hd : decode M.2.1 pc = .ok (.iload 13, 2)) (h : AW K M T (pc + 2) (a0 :: a1 :: a2 :: a3 :: a4 :: a5 :: a6 :: a7 :: a8 :: a9 :: a10 :: a11 :: a12 :: some (.int x) :: r) (.int x :: st) n R σ) : AW K M T pc (a0 :: a1 :: a2 :: a3 :: a4 :: a5 :: a6 :: a7 :: a8 :: a9 :: a10 :: a11 :: a12 :: some (.int x) :: r) st n R σ := by
  obtain ⟨⟨p, l, e, s, m⟩, ⟨args, below, meth, c⟩, D, g, tw, base, n0⟩ := K
  intro ok H locs ls hW hS hl
  exact lv_iload ok.1 ok.2.1 hd (lvA_get hl rfl) (h ok H locs ls hW hS hl)
theorem aw_lload_0 {K : KT} {M : MT} {T : TT} {pc : Nat} {st : List Value} {n : Nat} {R : Rg} {σ : Sg} {r : List (Option Value)} {x : Int64} (hd : decode M.2.1 pc = .ok (.lload_n 0, 1)) (h : AW K M T (pc + 1) (some (.long x) :: r) (.long x :: st) n R σ) : AW K M T pc (some (.long x) :: r) st n R σ := by
  obtain ⟨⟨p, l, e, s, m⟩, ⟨args, below, meth, c⟩, D, g, tw, base, n0⟩ := K
  intro ok H locs ls hW hS hl
  exact lv_lload_n ok.1 ok.2.1 hd rfl (lvA_get hl rfl) (h ok H locs ls hW hS hl)
theorem aw_lload_1 {K : KT} {M : MT} {T : TT} {pc : Nat} {st : List Value} {n : Nat} {R : Rg} {σ : Sg} {a0 : Option Value} {r : List (Option Value)} {x : Int64} (hd : decode M.2.1 pc = .ok (.lload_n 1, 1)) (h : AW K M T (pc + 1) (a0 :: some (.long x) :: r) (.long x :: st) n R σ) : AW K M T pc (a0 :: some (.long x) :: r) st n R σ := by
  obtain ⟨⟨p, l, e, s, m⟩, ⟨args, below, meth, c⟩, D, g, tw, base, n0⟩ := K
  intro ok H locs ls hW hS hl
  exact lv_lload_n ok.1 ok.2.1 hd rfl (lvA_get hl rfl) (h ok H locs ls hW hS hl)
theorem aw_lload_2 {K : KT} {M : MT} {T : TT} {pc : Nat} {st : List Value} {n : Nat} {R : Rg} {σ : Sg} {a0 a1 : Option Value} {r : List (Option Value)} {x : Int64} (hd : decode M.2.1 pc = .ok (.lload_n 2, 1)) (h : AW K M T (pc + 1) (a0 :: a1 :: some (.long x) :: r) (.long x :: st) n R σ) : AW K M T pc (a0 :: a1 :: some (.long x) :: r) st n R σ := by
  obtain ⟨⟨p, l, e, s, m⟩, ⟨args, below, meth, c⟩, D, g, tw, base, n0⟩ := K
  intro ok H locs ls hW hS hl
  exact lv_lload_n ok.1 ok.2.1 hd rfl (lvA_get hl rfl) (h ok H locs ls hW hS hl)
theorem aw_lload_3 {K : KT} {M : MT} {T : TT} {pc : Nat} {st : List Value} {n : Nat} {R : Rg} {σ : Sg} {a0 a1 a2 : Option Value} {r : List (Option Value)} {x : Int64} (hd : decode M.2.1 pc = .ok (.lload_n 3, 1)) (h : AW K M T (pc + 1) (a0 :: a1 :: a2 :: some (.long x) :: r) (.long x :: st) n R σ) : AW K M T pc (a0 :: a1 :: a2 :: some (.long x) :: r) st n R σ := by
  obtain ⟨⟨p, l, e, s, m⟩, ⟨args, below, meth, c⟩, D, g, tw, base, n0⟩ := K
  intro ok H locs ls hW hS hl
  exact lv_lload_n ok.1 ok.2.1 hd rfl (lvA_get hl rfl) (h ok H locs ls hW hS hl)
theorem aw_lload_4 {K : KT} {M : MT} {T : TT} {pc : Nat} {st : List Value} {n : Nat} {R : Rg} {σ : Sg} {a0 a1 a2 a3 : Option Value} {r : List (Option Value)} {x : Int64} (hd : decode M.2.1 pc = .ok (.lload 4, 2)) (h : AW K M T (pc + 2) (a0 :: a1 :: a2 :: a3 :: some (.long x) :: r) (.long x :: st) n R σ) : AW K M T pc (a0 :: a1 :: a2 :: a3 :: some (.long x) :: r) st n R σ := by
  obtain ⟨⟨p, l, e, s, m⟩, ⟨args, below, meth, c⟩, D, g, tw, base, n0⟩ := K
  intro ok H locs ls hW hS hl
  exact lv_lload ok.1 ok.2.1 hd (lvA_get hl rfl) (h ok H locs ls hW hS hl)
theorem aw_lload_5 {K : KT} {M : MT} {T : TT} {pc : Nat} {st : List Value} {n : Nat} {R : Rg} {σ : Sg} {a0 a1 a2 a3 a4 : Option Value} {r : List (Option Value)} {x : Int64} (hd : decode M.2.1 pc = .ok (.lload 5, 2)) (h : AW K M T (pc + 2) (a0 :: a1 :: a2 :: a3 :: a4 :: some (.long x) :: r) (.long x :: st) n R σ) : AW K M T pc (a0 :: a1 :: a2 :: a3 :: a4 :: some (.long x) :: r) st n R σ := by
  obtain ⟨⟨p, l, e, s, m⟩, ⟨args, below, meth, c⟩, D, g, tw, base, n0⟩ := K
  intro ok H locs ls hW hS hl
  exact lv_lload ok.1 ok.2.1 hd (lvA_get hl rfl) (h ok H locs ls hW hS hl)
theorem aw_lload_6 {K : KT} {M : MT} {T : TT} {pc : Nat} {st : List Value} {n : Nat} {R : Rg} {σ : Sg} {a0 a1 a2 a3 a4 a5 : Option Value} {r : List (Option Value)} {x : Int64} (hd : decode M.2.1 pc = .ok (.lload 6, 2)) (h : AW K M T (pc + 2) (a0 :: a1 :: a2 :: a3 :: a4 :: a5 :: some (.long x) :: r) (.long x :: st) n R σ) : AW K M T pc (a0 :: a1 :: a2 :: a3 :: a4 :: a5 :: some (.long x) :: r) st n R σ := by
  obtain ⟨⟨p, l, e, s, m⟩, ⟨args, below, meth, c⟩, D, g, tw, base, n0⟩ := K
  intro ok H locs ls hW hS hl
  exact lv_lload ok.1 ok.2.1 hd (lvA_get hl rfl) (h ok H locs ls hW hS hl)
theorem aw_lload_7 {K : KT} {M : MT} {T : TT} {pc : Nat} {st : List Value} {n : Nat} {R : Rg} {σ : Sg} {a0 a1 a2 a3 a4 a5 a6 : Option Value} {r : List (Option Value)} {x : Int64} (hd : decode M.2.1 pc = .ok (.lload 7, 2)) (h : AW K M T (pc + 2) (a0 :: a1 :: a2 :: a3 :: a4 :: a5 :: a6 :: some (.long x) :: r) (.long x :: st) n R σ) : AW K M T pc (a0 :: a1 :: a2 :: a3 :: a4 :: a5 :: a6 :: some (.long x) :: r) st n R σ := by
  obtain ⟨⟨p, l, e, s, m⟩, ⟨args, below, meth, c⟩, D, g, tw, base, n0⟩ := K
  intro ok H locs ls hW hS hl
  exact lv_lload ok.1 ok.2.1 hd (lvA_get hl rfl) (h ok H locs ls hW hS hl)
theorem aw_lload_8 {K : KT} {M : MT} {T : TT} {pc : Nat} {st : List Value} {n : Nat} {R : Rg} {σ : Sg} {a0 a1 a2 a3 a4 a5 a6 a7 : Option Value} {r : List (Option Value)} {x : Int64} (hd : decode M.2.1 pc = .ok (.lload 8, 2)) (h : AW K M T (pc + 2) (a0 :: a1 :: a2 :: a3 :: a4 :: a5 :: a6 :: a7 :: some (.long x) :: r) (.long x :: st) n R σ) : AW K M T pc (a0 :: a1 :: a2 :: a3 :: a4 :: a5 :: a6 :: a7 :: some (.long x) :: r) st n R σ := by
  obtain ⟨⟨p, l, e, s, m⟩, ⟨args, below, meth, c⟩, D, g, tw, base, n0⟩ := K
  intro ok H locs ls hW hS hl
  exact lv_lload ok.1 ok.2.1 hd (lvA_get hl rfl) (h ok H locs ls hW hS hl)
theorem aw_lload_9 {K : KT} {M : MT} {T : TT} {pc : Nat} {st : List Value} {n : Nat} {R : Rg} {σ : Sg} {a0 a1 a2 a3 a4 a5 a6 a7 a8 : Option Value} {r : List (Option Value)} {x : Int64} (hd : decode M.2.1 pc = .ok (.lload 9, 2)) (h : AW K M T (pc + 2) (a0 :: a1 :: a2 :: a3 :: a4 :: a5 :: a6 :: a7 :: a8 :: some (.long x) :: r) (.long x :: st) n R σ) : AW K M T pc (a0 :: a1 :: a2 :: a3 :: a4 :: a5 :: a6 :: a7 :: a8 :: some (.long x) :: r) st n R σ := by
  obtain ⟨⟨p, l, e, s, m⟩, ⟨args, below, meth, c⟩, D, g, tw, base, n0⟩ := K
  intro ok H locs ls hW hS hl
  exact lv_lload ok.1 ok.2.1 hd (lvA_get hl rfl) (h ok H locs ls hW hS hl)
theorem aw_lload_10 {K : KT} {M : MT} {T : TT} {pc : Nat} {st : List Value} {n : Nat} {R : Rg} {σ : Sg} {a0 a1 a2 a3 a4 a5 a6 a7 a8 a9 : Option Value} {r : List (Option Value)} {x : Int64} (hd : decode M.2.1 pc = .ok (.lload 10, 2)) (h : AW K M T (pc + 2) (a0 :: a1 :: a2 :: a3 :: a4 :: a5 :: a6 :: a7 :: a8 :: a9 :: some (.long x) :: r) (.long x :: st) n R σ) : AW K M T pc (a0 :: a1 :: a2 :: a3 :: a4 :: a5 :: a6 :: a7 :: a8 :: a9 :: some (.long x) :: r) st n R σ := by
  obtain ⟨⟨p, l, e, s, m⟩, ⟨args, below, meth, c⟩, D, g, tw, base, n0⟩ := K
  intro ok H locs ls hW hS hl
  exact lv_lload ok.1 ok.2.1 hd (lvA_get hl rfl) (h ok H locs ls hW hS hl)
theorem aw_lload_11 {K : KT} {M : MT} {T : TT} {pc : Nat} {st : List Value} {n : Nat} {R : Rg} {σ : Sg} {a0 a1 a2 a3 a4 a5 a6 a7 a8 a9 a10 : Option Value} {r : List (Option Value)} {x : Int64} (hd : decode M.2.1 pc = .ok (.lload 11, 2)) (h : AW K M T (pc + 2) (a0 :: a1 :: a2 :: a3 :: a4 :: a5 :: a6 :: a7 :: a8 :: a9 :: a10 :: some (.long x) :: r) (.long x :: st) n R σ) : AW K M T pc (a0 :: a1 :: a2 :: a3 :: a4 :: a5 :: a6 :: a7 :: a8 :: a9 :: a10 :: some (.long x) :: r) st n R σ := by
  obtain ⟨⟨p, l, e, s, m⟩, ⟨args, below, meth, c⟩, D, g, tw, base, n0⟩ := K
  intro ok H locs ls hW hS hl
  exact lv_lload ok.1 ok.2.1 hd (lvA_get hl rfl) (h ok H locs ls hW hS hl)
theorem aw_lload_12 {K : KT} {M : MT} {T : TT} {pc : Nat} {st : List Value} {n : Nat} {R : Rg} {σ : Sg} {a0 a1 a2 a3 a4 a5 a6 a7 a8 a9 a10 a11 : Option Value} {r : List (Option Value)} {x : Int64} (hd : decode M.2.1 pc = .ok (.lload 12, 2)) (h : AW K M T (pc + 2) (a0 :: a1 :: a2 :: a3 :: a4 :: a5 :: a6 :: a7 :: a8 :: a9 :: a10 :: a11 :: some (.long x) :: r) (.long x :: st) n R σ) : AW K M T pc (a0 :: a1 :: a2 :: a3 :: a4 :: a5 :: a6 :: a7 :: a8 :: a9 :: a10 :: a11 :: some (.long x) :: r) st n R σ := by
  obtain ⟨⟨p, l, e, s, m⟩, ⟨args, below, meth, c⟩, D, g, tw, base, n0⟩ := K
  intro ok H locs ls hW hS hl
  exact lv_lload ok.1 ok.2.1 hd (lvA_get hl rfl) (h ok H locs ls hW hS hl)
theorem aw_lload_13 {K : KT} {M : MT} {T : TT} {pc : Nat} {st : List Value} {n : Nat} {R : Rg} {σ : Sg} {a0 a1 a2 a3 a4 a5 a6 a7 a8 a9 a10 a11 a12 : Option Value} {r : List (Option Value)} {x : Int64} (hd : decode M.2.1 pc = .ok (.lload 13, 2)) (h : AW K M T (pc + 2) (a0 :: a1 :: a2 :: a3 :: a4 :: a5 :: a6 :: a7 :: a8 :: a9 :: a10 :: a11 :: a12 :: some (.long x) :: r) (.long x :: st) n R σ) : AW K M T pc (a0 :: a1 :: a2 :: a3 :: a4 :: a5 :: a6 :: a7 :: a8 :: a9 :: a10 :: a11 :: a12 :: some (.long x) :: r) st n R σ := by
  obtain ⟨⟨p, l, e, s, m⟩, ⟨args, below, meth, c⟩, D, g, tw, base, n0⟩ := K
  intro ok H locs ls hW hS hl
  exact lv_lload ok.1 ok.2.1 hd (lvA_get hl rfl) (h ok H locs ls hW hS hl)
theorem aw_aload_0 {K : KT} {M : MT} {T : TT} {pc : Nat} {st : List Value} {n : Nat} {R : Rg} {σ : Sg} {r : List (Option Value)} {x : Nat} (hd : decode M.2.1 pc = .ok (.aload_n 0, 1)) (h : AW K M T (pc + 1) (some (.ref x) :: r) (.ref x :: st) n R σ) : AW K M T pc (some (.ref x) :: r) st n R σ := by
  obtain ⟨⟨p, l, e, s, m⟩, ⟨args, below, meth, c⟩, D, g, tw, base, n0⟩ := K
  intro ok H locs ls hW hS hl
  exact lv_aload_n ok.1 ok.2.1 hd rfl (lvA_get hl rfl) (h ok H locs ls hW hS hl)
theorem aw_aload_1 {K : KT} {M : MT} {T : TT} {pc : Nat} {st : List Value} {n : Nat} {R : Rg} {σ : Sg} {a0 : Option Value} {r : List (Option Value)} {x : Nat} (hd : decode M.2.1 pc = .ok (.aload_n 1, 1)) (h : AW K M T (pc + 1) (a0 :: some (.ref x) :: r) (.ref x :: st) n R σ) : AW K M T pc (a0 :: some (.ref x) :: r) st n R σ := by
  obtain ⟨⟨p, l, e, s, m⟩, ⟨args, below, meth, c⟩, D, g, tw, base, n0⟩ := K
  intro ok H locs ls hW hS hl
  exact lv_aload_n ok.1 ok.2.1 hd rfl (lvA_get hl rfl) (h ok H locs ls hW hS hl)
theorem aw_aload_2 {K : KT} {M : MT} {T : TT} {pc : Nat} {st : List Value} {n : Nat} {R : Rg} {σ : Sg} {a0 a1 : Option Value} {r : List (Option Value)} {x : Nat} (hd : decode M.2.1 pc = .ok (.aload_n 2, 1)) (h : AW K M T (pc + 1) (a0 :: a1 :: some (.ref x) :: r) (.ref x :: st) n R σ) : AW K M T pc (a0 :: a1 :: some (.ref x) :: r) st n R σ := by
  obtain ⟨⟨p, l, e, s, m⟩, ⟨args, below, meth, c⟩, D, g, tw, base, n0⟩ := K
  intro ok H locs ls hW hS hl
  exact lv_aload_n ok.1 ok.2.1 hd rfl (lvA_get hl rfl) (h ok H locs ls hW hS hl)
theorem aw_aload_3 {K : KT} {M : MT} {T : TT} {pc : Nat} {st : List Value} {n : Nat} {R : Rg} {σ : Sg} {a0 a1 a2 : Option Value} {r : List (Option Value)} {x : Nat} (hd : decode M.2.1 pc = .ok (.aload_n 3, 1)) (h : AW K M T (pc + 1) (a0 :: a1 :: a2 :: some (.ref x) :: r) (.ref x :: st) n R σ) : AW K M T pc (a0 :: a1 :: a2 :: some (.ref x) :: r) st n R σ := by
  obtain ⟨⟨p, l, e, s, m⟩, ⟨args, below, meth, c⟩, D, g, tw, base, n0⟩ := K
  intro ok H locs ls hW hS hl
  exact lv_aload_n ok.1 ok.2.1 hd rfl (lvA_get hl rfl) (h ok H locs ls hW hS hl)
theorem aw_aload_4 {K : KT} {M : MT} {T : TT} {pc : Nat} {st : List Value} {n : Nat} {R : Rg} {σ : Sg} {a0 a1 a2 a3 : Option Value} {r : List (Option Value)} {x : Nat} (hd : decode M.2.1 pc = .ok (.aload 4, 2)) (h : AW K M T (pc + 2) (a0 :: a1 :: a2 :: a3 :: some (.ref x) :: r) (.ref x :: st) n R σ) : AW K M T pc (a0 :: a1 :: a2 :: a3 :: some (.ref x) :: r) st n R σ := by
  obtain ⟨⟨p, l, e, s, m⟩, ⟨args, below, meth, c⟩, D, g, tw, base, n0⟩ := K
  intro ok H locs ls hW hS hl
  exact lv_aload ok.1 ok.2.1 hd (lvA_get hl rfl) (h ok H locs ls hW hS hl)
theorem aw_aload_5 {K : KT} {M : MT} {T : TT} {pc : Nat} {st : List Value} {n : Nat} {R : Rg} {σ : Sg} {a0 a1 a2 a3 a4 : Option Value} {r : List (Option Value)} {x : Nat} (hd : decode M.2.1 pc = .ok (.aload 5, 2)) (h : AW K M T (pc + 2) (a0 :: a1 :: a2 :: a3 :: a4 :: some (.ref x) :: r) (.ref x :: st) n R σ) : AW K M T pc (a0 :: a1 :: a2 :: a3 :: a4 :: some (.ref x) :: r) st n R σ := by
  obtain ⟨⟨p, l, e, s, m⟩, ⟨args, below, meth, c⟩, D, g, tw, base, n0⟩ := K
  intro ok H locs ls hW hS hl
  exact lv_aload ok.1 ok.2.1 hd (lvA_get hl rfl) (h ok H locs ls hW hS hl)
theorem aw_aload_6 {K : KT} {M : MT} {T : TT} {pc : Nat} {st : List Value} {n : Nat} {R : Rg} {σ : Sg} {a0 a1 a2 a3 a4 a5 : Option Value} {r : List (Option Value)} {x : Nat} (hd : decode M.2.1 pc = .ok (.aload 6, 2)) (h : AW K M T (pc + 2) (a0 :: a1 :: a2 :: a3 :: a4 :: a5 :: some (.ref x) :: r) (.ref x :: st) n R σ) : AW K M T pc (a0 :: a1 :: a2 :: a3 :: a4 :: a5 :: some (.ref x) :: r) st n R σ := by
  obtain ⟨⟨p, l, e, s, m⟩, ⟨args, below, meth, c⟩, D, g, tw, base, n0⟩ := K
  intro ok H locs ls hW hS hl
  exact lv_aload ok.1 ok.2.1 hd (lvA_get hl rfl) (h ok H locs ls hW hS hl)
theorem aw_aload_7 {K : KT} {M : MT} {T : TT} {pc : Nat} {st : List Value} {n : Nat} {R : Rg} {σ : Sg} {a0 a1 a2 a3 a4 a5 a6 : Option Value} {r : List (Option Value)} {x : Nat} (hd : decode M.2.1 pc = .ok (.aload 7, 2)) (h : AW K M T (pc + 2) (a0 :: a1 :: a2 :: a3 :: a4 :: a5 :: a6 :: some (.ref x) :: r) (.ref x :: st) n R σ) : AW K M T pc (a0 :: a1 :: a2 :: a3 :: a4 :: a5 :: a6 :: some (.ref x) :: r) st n R σ := by
  obtain ⟨⟨p, l, e, s, m⟩, ⟨args, below, meth, c⟩, D, g, tw, base, n0⟩ := K
  intro ok H locs ls hW hS hl
  exact lv_aload ok.1 ok.2.1 hd (lvA_get hl rfl) (h ok H locs ls hW hS hl)
theorem aw_aload_8 {K : KT} {M : MT} {T : TT} {pc : Nat} {st : List Value} {n : Nat} {R : Rg} {σ : Sg} {a0 a1 a2 a3 a4 a5 a6 a7 : Option Value} {r : List (Option Value)} {x : Nat} (hd : decode M.2.1 pc = .ok (.aload 8, 2)) (h : AW K M T (pc + 2) (a0 :: a1 :: a2 :: a3 :: a4 :: a5 :: a6 :: a7 :: some (.ref x) :: r) (.ref x :: st) n R σ) : AW K M T pc (a0 :: a1 :: a2 :: a3 :: a4 :: a5 :: a6 :: a7 :: some (.ref x) :: r) st n R σ := by
  obtain ⟨⟨p, l, e, s, m⟩, ⟨args, below, meth, c⟩, D, g, tw, base, n0⟩ := K
  intro ok H locs ls hW hS hl
  exact lv_aload ok.1 ok.2.1 hd (lvA_get hl rfl) (h ok H locs ls hW hS hl)
theorem aw_aload_9 {K : KT} {M : MT} {T : TT} {pc : Nat} {st : List Value} {n : Nat} {R : Rg} {σ : Sg} {a0 a1 a2 a3 a4 a5 a6 a7 a8 : Option Value} {r : List (Option Value)} {x : Nat} (hd : decode M.2.1 pc = .ok (.aload 9, 2)) (h : AW K M T (pc + 2) (a0 :: a1 :: a2 :: a3 :: a4 :: a5 :: a6 :: a7 :: a8 :: some (.ref x) :: r) (.ref x :: st) n R σ) : AW K M T pc (a0 :: a1 :: a2 :: a3 :: a4 :: a5 :: a6 :: a7 :: a8 :: some (.ref x) :: r) st n R σ := by
  obtain ⟨⟨p, l, e, s, m⟩, ⟨args, below, meth, c⟩, D, g, tw, base, n0⟩ := K
  intro ok H locs ls hW hS hl
  exact lv_aload ok.1 ok.2.1 hd (lvA_get hl rfl) (h ok H locs ls hW hS hl)
theorem aw_aload_10 {K : KT} {M : MT} {T : TT} {pc : Nat} {st : List Value} {n : Nat} {R : Rg} {σ : Sg} {a0 a1 a2 a3 a4 a5 a6 a7 a8 a9 : Option Value} {r : List (Option Value)} {x : Nat} (hd : decode M.2.1 pc = .ok (.aload 10, 2)) (h : AW K M T (pc + 2) (a0 :: a1 :: a2 :: a3 :: a4 :: a5 :: a6 :: a7 :: a8 :: a9 :: some (.ref x) :: r) (.ref x :: st) n R σ) : AW K M T pc (a0 :: a1 :: a2 :: a3 :: a4 :: a5 :: a6 :: a7 :: a8 :: a9 :: some (.ref x) :: r) st n R σ := by
  obtain ⟨⟨p, l, e, s, m⟩, ⟨args, below, meth, c⟩, D, g, tw, base, n0⟩ := K
  intro ok H locs ls hW hS hl
  exact lv_aload ok.1 ok.2.1 hd (lvA_get hl rfl) (h ok H locs ls hW hS hl)
theorem aw_aload_11 {K : KT} {M : MT} {T : TT} {pc : Nat} {st : List Value} {n : Nat} {R : Rg} {σ : Sg} {a0 a1 a2 a3 a4 a5 a6 a7 a8 a9 a10 : Option Value} {r : List (Option Value)} {x : Nat} (hd : decode M.2.1 pc = .ok (.aload 11, 2)) (h : AW K M T (pc + 2) (a0 :: a1 :: a2 :: a3 :: a4 :: a5 :: a6 :: a7 :: a8 :: a9 :: a10 :: some (.ref x) :: r) (.ref x :: st) n R σ) : AW K M T pc (a0 :: a1 :: a2 :: a3 :: a4 :: a5 :: a6 :: a7 :: a8 :: a9 :: a10 :: some (.ref x) :: r) st n R σ := by
  obtain ⟨⟨p, l, e, s, m⟩, ⟨args, below, meth, c⟩, D, g, tw, base, n0⟩ := K
  intro ok H locs ls hW hS hl
  exact lv_aload ok.1 ok.2.1 hd (lvA_get hl rfl) (h ok H locs ls hW hS hl)
theorem aw_aload_12 {K : KT} {M : MT} {T : TT} {pc : Nat} {st : List Value} {n : Nat} {R : Rg} {σ : Sg} {a0 a1 a2 a3 a4 a5 a6 a7 a8 a9 a10 a11 : Option Value} {r : List (Option Value)} {x : Nat} (hd : decode M.2.1 pc = .ok (.aload 12, 2)) (h : AW K M T (pc + 2) (a0 :: a1 :: a2 :: a3 :: a4 :: a5 :: a6 :: a7 :: a8 :: a9 :: a10 :: a11 :: some (.ref x) :: r) (.ref x :: st) n R σ) : AW K M T pc (a0 :: a1 :: a2 :: a3 :: a4 :: a5 :: a6 :: a7 :: a8 :: a9 :: a10 :: a11 :: some (.ref x) :: r) st n R σ := by
  obtain ⟨⟨p, l, e, s, m⟩, ⟨args, below, meth, c⟩, D, g, tw, base, n0⟩ := K
  intro ok H locs ls hW hS hl
  exact lv_aload ok.1 ok.2.1 hd (lvA_get hl rfl) (h ok H locs ls hW hS hl)
theorem aw_aload_13 {K : KT} {M : MT} {T : TT} {pc : Nat} {st : List Value} {n : Nat} {R : Rg} {σ : Sg} {a0 a1 a2 a3 a4 a5 a6 a7 a8 a9 a10 a11 a12 : Option Value} {r : List (Option Value)} {x : Nat} (hd : decode M.2.1 pc = .ok (.aload 13, 2)) (h : AW K M T (pc + 2) (a0 :: a1 :: a2 :: a3 :: a4 :: a5 :: a6 :: a7 :: a8 :: a9 :: a10 :: a11 :: a12 :: some (.ref x) :: r) (.ref x :: st) n R σ) : AW K M T pc (a0 :: a1 :: a2 :: a3 :: a4 :: a5 :: a6 :: a7 :: a8 :: a9 :: a10 :: a11 :: a12 :: some (.ref x) :: r) st n R σ := by
  obtain ⟨⟨p, l, e, s, m⟩, ⟨args, below, meth, c⟩, D, g, tw, base, n0⟩ := K
  intro ok H locs ls hW hS hl
  exact lv_aload ok.1 ok.2.1 hd (lvA_get hl rfl) (h ok H locs ls hW hS hl)
theorem aw_istore_0 {K : KT} {M : MT} {T : TT} {pc : Nat} {st : List Value} {n : Nat} {R : Rg} {σ : Sg} {o : Option Value} {r : List (Option Value)} {x : Int32} (hd : decode M.2.1 pc = .ok (.istore_n 0, 1)) (hn : 0 < M.2.2.1) (h : AW K M T (pc + 1) (some (.int x) :: r) st n R σ) : AW K M T pc (o :: r) (.int x :: st) n R σ := by
  obtain ⟨⟨p, l, e, s, m⟩, ⟨args, below, meth, c⟩, D, g, tw, base, n0⟩ := K
  intro ok H locs ls hW hS hl
  exact lv_istore_n ok.1 ok.2.1 hd rfl hl hn rfl (fun ls' hl' => h ok H locs ls' hW hS (by have z := lvA_set1 (v := .int x) (fun w q _ => absurd q (Nat.lt_irrefl 0)) (by simp) hl'; simpa using z))
theorem aw_istore_1 {K : KT} {M : MT} {T : TT} {pc : Nat} {st : List Value} {n : Nat} {R : Rg} {σ : Sg} {a0 o : Option Value} {r : List (Option Value)} {x : Int32} (hd : decode M.2.1 pc = .ok (.istore_n 1, 1)) (hn : 1 < M.2.2.1) (hp : okc a0 = true) (h : AW K M T (pc + 1) (a0 :: some (.int x) :: r) st n R σ) : AW K M T pc (a0 :: o :: r) (.int x :: st) n R σ := by
  obtain ⟨⟨p, l, e, s, m⟩, ⟨args, below, meth, c⟩, D, g, tw, base, n0⟩ := K
  intro ok H locs ls hW hS hl
  exact lv_istore_n ok.1 ok.2.1 hd rfl hl hn rfl (fun ls' hl' => h ok H locs ls' hW hS (by have z := lvA_set1 (v := .int x) (fun w _ e => by simp at e; rw [← e]; exact hp) (by simp) hl'; simpa using z))
theorem aw_istore_2 {K : KT} {M : MT} {T : TT} {pc : Nat} {st : List Value} {n : Nat} {R : Rg} {σ : Sg} {a0 a1 o : Option Value} {r : List (Option Value)} {x : Int32} (hd : decode M.2.1 pc = .ok (.istore_n 2, 1)) (hn : 2 < M.2.2.1) (hp : okc a1 = true) (h : AW K M T (pc + 1) (a0 :: a1 :: some (.int x) :: r) st n R σ) : AW K M T pc (a0 :: a1 :: o :: r) (.int x :: st) n R σ := by
  obtain ⟨⟨p, l, e, s, m⟩, ⟨args, below, meth, c⟩, D, g, tw, base, n0⟩ := K
  intro ok H locs ls hW hS hl
  exact lv_istore_n ok.1 ok.2.1 hd rfl hl hn rfl (fun ls' hl' => h ok H locs ls' hW hS (by have z := lvA_set1 (v := .int x) (fun w _ e => by simp at e; rw [← e]; exact hp) (by simp) hl'; simpa using z))
theorem aw_istore_3 {K : KT} {M : MT} {T : TT} {pc : Nat} {st : List Value} {n : Nat} {R : Rg} {σ : Sg} {a0 a1 a2 o : Option Value} {r : List (Option Value)} {x : Int32} (hd : decode M.2.1 pc = .ok (.istore_n 3, 1)) (hn : 3 < M.2.2.1) (hp : okc a2 = true) (h : AW K M T (pc + 1) (a0 :: a1 :: a2 :: some (.int x) :: r) st n R σ) : AW K M T pc (a0 :: a1 :: a2 :: o :: r) (.int x :: st) n R σ := by
  obtain ⟨⟨p, l, e, s, m⟩, ⟨args, below, meth, c⟩, D, g, tw, base, n0⟩ := K
  intro ok H locs ls hW hS hl
  exact lv_istore_n ok.1 ok.2.1 hd rfl hl hn rfl (fun ls' hl' => h ok H locs ls' hW hS (by have z := lvA_set1 (v := .int x) (fun w _ e => by simp at e; rw [← e]; exact hp) (by simp) hl'; simpa using z))
theorem aw_istore_4 {K : KT} {M : MT} {T : TT} {pc : Nat} {st : List Value} {n : Nat} {R : Rg} {σ : Sg} {a0 a1 a2 a3 o : Option Value} {r : List (Option Value)} {x : Int32} (hd : decode M.2.1 pc = .ok (.istore 4, 2)) (hn : 4 < M.2.2.1) (hp : okc a3 = true) (h : AW K M T (pc + 2) (a0 :: a1 :: a2 :: a3 :: some (.int x) :: r) st n R σ) : AW K M T pc (a0 :: a1 :: a2 :: a3 :: o :: r) (.int x :: st) n R σ := by
  obtain ⟨⟨p, l, e, s, m⟩, ⟨args, below, meth, c⟩, D, g, tw, base, n0⟩ := K
  intro ok H locs ls hW hS hl
  exact lv_istore ok.1 ok.2.1 hd hl hn rfl (fun ls' hl' => h ok H locs ls' hW hS (by have z := lvA_set1 (v := .int x) (fun w _ e => by simp at e; rw [← e]; exact hp) (by simp) hl'; simpa using z))
theorem aw_istore_5 {K : KT} {M : MT} {T : TT} {pc : Nat} {st : List Value} {n : Nat} {R : Rg} {σ : Sg} {a0 a1 a2 a3 a4 o : Option Value} {r : List (Option Value)} {x : Int32} (hd : decode M.2.1 pc = .ok (.istore 5, 2)) (hn : 5 < M.2.2.1) (hp : okc a4 = true) (h : AW K M T (pc + 2) (a0 :: a1 :: a2 :: a3 :: a4 :: some (.int x) :: r) st n R σ) : AW K M T pc (a0 :: a1 :: a2 :: a3 :: a4 :: o :: r) (.int x :: st) n R σ := by
  obtain ⟨⟨p, l, e, s, m⟩, ⟨args, below, meth, c⟩, D, g, tw, base, n0⟩ := K
  intro ok H locs ls hW hS hl
  exact lv_istore ok.1 ok.2.1 hd hl hn rfl (fun ls' hl' => h ok H locs ls' hW hS (by have z := lvA_set1 (v := .int x) (fun w _ e => by simp at e; rw [← e]; exact hp) (by simp) hl'; simpa using z))
theorem aw_istore_6 {K : KT} {M : MT} {T : TT} {pc : Nat} {st : List Value} {n : Nat} {R : Rg} {σ : Sg} {a0 a1 a2 a3 a4 a5 o : Option Value} {r : List (Option Value)} {x : Int32} (hd : decode M.2.1 pc = .ok (.istore 6, 2)) (hn : 6 < M.2.2.1) (hp : okc a5 = true) (h : AW K M T (pc + 2) (a0 :: a1 :: a2 :: a3 :: a4 :: a5 :: some (.int x) :: r) st n R σ) : AW K M T pc (a0 :: a1 :: a2 :: a3 :: a4 :: a5 :: o :: r) (.int x :: st) n R σ := by
  obtain ⟨⟨p, l, e, s, m⟩, ⟨args, below, meth, c⟩, D, g, tw, base, n0⟩ := K
  intro ok H locs ls hW hS hl
  exact lv_istore ok.1 ok.2.1 hd hl hn rfl (fun ls' hl' => h ok H locs ls' hW hS (by have z := lvA_set1 (v := .int x) (fun w _ e => by simp at e; rw [← e]; exact hp) (by simp) hl'; simpa using z))
theorem aw_istore_7 {K : KT} {M : MT} {T : TT} {pc : Nat} {st : List Value} {n : Nat} {R : Rg} {σ : Sg} {a0 a1 a2 a3 a4 a5 a6 o : Option Value} {r : List (Option Value)} {x : Int32} (hd : decode M.2.1 pc = .ok (.istore 7, 2)) (hn : 7 < M.2.2.1) (hp : okc a6 = true) (h : AW K M T (pc + 2) (a0 :: a1 :: a2 :: a3 :: a4 :: a5 :: a6 :: some (.int x) :: r) st n R σ) : AW K M T pc (a0 :: a1 :: a2 :: a3 :: a4 :: a5 :: a6 :: o :: r) (.int x :: st) n R σ := by
  obtain ⟨⟨p, l, e, s, m⟩, ⟨args, below, meth, c⟩, D, g, tw, base, n0⟩ := K
  intro ok H locs ls hW hS hl
  exact lv_istore ok.1 ok.2.1 hd hl hn rfl (fun ls' hl' => h ok H locs ls' hW hS (by have z := lvA_set1 (v := .int x) (fun w _ e => by simp at e; rw [← e]; exact hp) (by simp) hl'; simpa using z))
theorem aw_istore_8 {K : KT} {M : MT} {T : TT} {pc : Nat} {st : List Value} {n : Nat} {R : Rg} {σ : Sg} {a0 a1 a2 a3 a4 a5 a6 a7 o : Option Value} {r : List (Option Value)} {x : Int32} (hd : decode M.2.1 pc = .ok (.istore 8, 2)) (hn : 8 < M.2.2.1) (hp : okc a7 = true) (h : AW K M T (pc + 2) (a0 :: a1 :: a2 :: a3 :: a4 :: a5 :: a6 :: a7 :: some (.int x) :: r) st n R σ) : AW K M T pc (a0 :: a1 :: a2 :: a3 :: a4 :: a5 :: a6 :: a7 :: o :: r) (.int x :: st) n R σ := by
  obtain ⟨⟨p, l, e, s, m⟩, ⟨args, below, meth, c⟩, D, g, tw, base, n0⟩ := K
  intro ok H locs ls hW hS hl
  exact lv_istore ok.1 ok.2.1 hd hl hn rfl (fun ls' hl' => h ok H locs ls' hW hS (by have z := lvA_set1 (v := .int x) (fun w _ e => by simp at e; rw [← e]; exact hp) (by simp) hl'; simpa using z))
theorem aw_istore_9 {K : KT} {M : MT} {T : TT} {pc : Nat} {st : List Value} {n : Nat} {R : Rg} {σ : Sg} {a0 a1 a2 a3 a4 a5 a6 a7 a8 o : Option Value} {r : List (Option Value)} {x : Int32} (hd : decode M.2.1 pc = .ok (.istore 9, 2)) (hn : 9 < M.2.2.1) (hp : okc a8 = true) (h : AW K M T (pc + 2) (a0 :: a1 :: a2 :: a3 :: a4 :: a5 :: a6 :: a7 :: a8 :: some (.int x) :: r) st n R σ) : AW K M T pc (a0 :: a1 :: a2 :: a3 :: a4 :: a5 :: a6 :: a7 :: a8 :: o :: r) (.int x :: st) n R σ := by
  obtain ⟨⟨p, l, e, s, m⟩, ⟨args, below, meth, c⟩, D, g, tw, base, n0⟩ := K
  intro ok H locs ls hW hS hl
  exact lv_istore ok.1 ok.2.1 hd hl hn rfl (fun ls' hl' => h ok H locs ls' hW hS (by have z := lvA_set1 (v := .int x) (fun w _ e => by simp at e; rw [← e]; exact hp) (by simp) hl'; simpa using z))
theorem aw_istore_10 {K : KT} {M : MT} {T : TT} {pc : Nat} {st : List Value} {n : Nat} {R : Rg} {σ : Sg} {a0 a1 a2 a3 a4 a5 a6 a7 a8 a9 o : Option Value} {r : List (Option Value)} {x : Int32} (hd : decode M.2.1 pc = .ok (.istore 10, 2)) (hn : 10 < M.2.2.1) (hp : okc a9 = true) (h : AW K M T (pc + 2) (a0 :: a1 :: a2 :: a3 :: a4 :: a5 :: a6 :: a7 :: a8 :: a9 :: some (.int x) :: r) st n R σ) : AW K M T pc (a0 :: a1 :: a2 :: a3 :: a4 :: a5 :: a6 :: a7 :: a8 :: a9 :: o :: r) (.int x :: st) n R σ := by
  obtain ⟨⟨p, l, e, s, m⟩, ⟨args, below, meth, c⟩, D, g, tw, base, n0⟩ := K
  intro ok H locs ls hW hS hl
  exact lv_istore ok.1 ok.2.1 hd hl hn rfl (fun ls' hl' => h ok H locs ls' hW hS (by have z := lvA_set1 (v := .int x) (fun w _ e => by simp at e; rw [← e]; exact hp) (by simp) hl'; simpa using z))
theorem aw_istore_11 {K : KT} {M : MT} {T : TT} {pc : Nat} {st : List Value} {n : Nat} {R : Rg} {σ : Sg} {a0 a1 a2 a3 a4 a5 a6 a7 a8 a9 a10 o : Option Value} {r : List (Option Value)} {x : Int32} (hd : decode M.2.1 pc = .ok (.istore 11, 2)) (hn : 11 < M.2.2.1) (hp : okc a10 = true) (h : AW K M T (pc + 2) (a0 :: a1 :: a2 :: a3 :: a4 :: a5 :: a6 :: a7 :: a8 :: a9 :: a10 :: some (.int x) :: r) st n R σ) : AW K M T pc (a0 :: a1 :: a2 :: a3 :: a4 :: a5 :: a6 :: a7 :: a8 :: a9 :: a10 :: o :: r) (.int x :: st) n R σ := by
  obtain ⟨⟨p, l, e, s, m⟩, ⟨args, below, meth, c⟩, D, g, tw, base, n0⟩ := K
  intro ok H locs ls hW hS hl
  exact lv_istore ok.1 ok.2.1 hd hl hn rfl (fun ls' hl' => h ok H locs ls' hW hS (by have z := lvA_set1 (v := .int x) (fun w _ e => by simp at e; rw [← e]; exact hp) (by simp) hl'; simpa using z))
theorem aw_istore_12 {K : KT} {M : MT} {T : TT} {pc : Nat} {st : List Value} {n : Nat} {R : Rg} {σ : Sg} {a0 a1 a2 a3 a4 a5 a6 a7 a8 a9 a10 a11 o : Option Value} {r : List (Option Value)} {x : Int32} (hd : decode M.2.1 pc = .ok (.istore 12, 2)) (hn : 12 < M.2.2.1) (hp : okc a11 = true) (h : AW K M T (pc + 2) (a0 :: a1 :: a2 :: a3 :: a4 :: a5 :: a6 :: a7 :: a8 :: a9 :: a10 :: a11 :: some (.int x) :: r) st n R σ) : AW K M T pc (a0 :: a1 :: a2 :: a3 :: a4 :: a5 :: a6 :: a7 :: a8 :: a9 :: a10 :: a11 :: o :: r) (.int x :: st) n R σ := by
  obtain ⟨⟨p, l, e, s, m⟩, ⟨args, below, meth, c⟩, D, g, tw, base, n0⟩ := K
  intro ok H locs ls hW hS hl
  exact lv_istore ok.1 ok.2.1 hd hl hn rfl (fun ls' hl' => h ok H locs ls' hW hS (by have z := lvA_set1 (v := .int x) (fun w _ e => by simp at e; rw [← e]; exact hp) (by simp) hl'; simpa using z))
theorem aw_lstore_0 {K : KT} {M : MT} {T : TT} {pc : Nat} {st : List Value} {n : Nat} {R : Rg} {σ : Sg} {o o2 : Option Value} {r : List (Option Value)} {x : Int64} (hd : decode M.2.1 pc = .ok (.lstore_n 0, 1)) (hn : 1 < M.2.2.1) (h : AW K M T (pc + 1) (some (.long x) :: none :: r) st n R σ) : AW K M T pc (o :: o2 :: r) (.long x :: st) n R σ := by
  obtain ⟨⟨p, l, e, s, m⟩, ⟨args, below, meth, c⟩, D, g, tw, base, n0⟩ := K
  intro ok H locs ls hW hS hl
  exact lv_lstore_n ok.1 ok.2.1 hd rfl hl hn rfl (fun ls' hl' => h ok H locs ls' hW hS (by have z := lvA_set2 (v := .long x) (fun w q _ => absurd q (Nat.lt_irrefl 0)) (by simp) hl'; simpa using z))
theorem aw_lstore_1 {K : KT} {M : MT} {T : TT} {pc : Nat} {st : List Value} {n : Nat} {R : Rg} {σ : Sg} {a0 o o2 : Option Value} {r : List (Option Value)} {x : Int64} (hd : decode M.2.1 pc = .ok (.lstore_n 1, 1)) (hn : 2 < M.2.2.1) (hp : okc a0 = true) (h : AW K M T (pc + 1) (a0 :: some (.long x) :: none :: r) st n R σ) : AW K M T pc (a0 :: o :: o2 :: r) (.long x :: st) n R σ := by
  obtain ⟨⟨p, l, e, s, m⟩, ⟨args, below, meth, c⟩, D, g, tw, base, n0⟩ := K
  intro ok H locs ls hW hS hl
  exact lv_lstore_n ok.1 ok.2.1 hd rfl hl hn rfl (fun ls' hl' => h ok H locs ls' hW hS (by have z := lvA_set2 (v := .long x) (fun w _ e => by simp at e; rw [← e]; exact hp) (by simp) hl'; simpa using z))
theorem aw_lstore_2 {K : KT} {M : MT} {T : TT} {pc : Nat} {st : List Value} {n : Nat} {R : Rg} {σ : Sg} {a0 a1 o o2 : Option Value} {r : List (Option Value)} {x : Int64} (hd : decode M.2.1 pc = .ok (.lstore_n 2, 1)) (hn : 3 < M.2.2.1) (hp : okc a1 = true) (h : AW K M T (pc + 1) (a0 :: a1 :: some (.long x) :: none :: r) st n R σ) : AW K M T pc (a0 :: a1 :: o :: o2 :: r) (.long x :: st) n R σ := by
  obtain ⟨⟨p, l, e, s, m⟩, ⟨args, below, meth, c⟩, D, g, tw, base, n0⟩ := K
  intro ok H locs ls hW hS hl
  exact lv_lstore_n ok.1 ok.2.1 hd rfl hl hn rfl (fun ls' hl' => h ok H locs ls' hW hS (by have z := lvA_set2 (v := .long x) (fun w _ e => by simp at e; rw [← e]; exact hp) (by simp) hl'; simpa using z))
theorem aw_lstore_3 {K : KT} {M : MT} {T : TT} {pc : Nat} {st : List Value} {n : Nat} {R : Rg} {σ : Sg} {a0 a1 a2 o o2 : Option Value} {r : List (Option Value)} {x : Int64} (hd : decode M.2.1 pc = .ok (.lstore_n 3, 1)) (hn : 4 < M.2.2.1) (hp : okc a2 = true) (h : AW K M T (pc + 1) (a0 :: a1 :: a2 :: some (.long x) :: none :: r) st n R σ) : AW K M T pc (a0 :: a1 :: a2 :: o :: o2 :: r) (.long x :: st) n R σ := by
  obtain ⟨⟨p, l, e, s, m⟩, ⟨args, below, meth, c⟩, D, g, tw, base, n0⟩ := K
  intro ok H locs ls hW hS hl
  exact lv_lstore_n ok.1 ok.2.1 hd rfl hl hn rfl (fun ls' hl' => h ok H locs ls' hW hS (by have z := lvA_set2 (v := .long x) (fun w _ e => by simp at e; rw [← e]; exact hp) (by simp) hl'; simpa using z))
theorem aw_lstore_4 {K : KT} {M : MT} {T : TT} {pc : Nat} {st : List Value} {n : Nat} {R : Rg} {σ : Sg} {a0 a1 a2 a3 o o2 : Option Value} {r : List (Option Value)} {x : Int64} (hd : decode M.2.1 pc = .ok (.lstore 4, 2)) (hn : 5 < M.2.2.1) (hp : okc a3 = true) (h : AW K M T (pc + 2) (a0 :: a1 :: a2 :: a3 :: some (.long x) :: none :: r) st n R σ) : AW K M T pc (a0 :: a1 :: a2 :: a3 :: o :: o2 :: r) (.long x :: st) n R σ := by
  obtain ⟨⟨p, l, e, s, m⟩, ⟨args, below, meth, c⟩, D, g, tw, base, n0⟩ := K
  intro ok H locs ls hW hS hl
  exact lv_lstore ok.1 ok.2.1 hd hl hn rfl (fun ls' hl' => h ok H locs ls' hW hS (by have z := lvA_set2 (v := .long x) (fun w _ e => by simp at e; rw [← e]; exact hp) (by simp) hl'; simpa using z))
theorem aw_lstore_5 {K : KT} {M : MT} {T : TT} {pc : Nat} {st : List Value} {n : Nat} {R : Rg} {σ : Sg} {a0 a1 a2 a3 a4 o o2 : Option Value} {r : List (Option Value)} {x : Int64} (hd : decode M.2.1 pc = .ok (.lstore 5, 2)) (hn : 6 < M.2.2.1) (hp : okc a4 = true) (h : AW K M T (pc + 2) (a0 :: a1 :: a2 :: a3 :: a4 :: some (.long x) :: none :: r) st n R σ) : AW K M T pc (a0 :: a1 :: a2 :: a3 :: a4 :: o :: o2 :: r) (.long x :: st) n R σ := by
  obtain ⟨⟨p, l, e, s, m⟩, ⟨args, below, meth, c⟩, D, g, tw, base, n0⟩ := K
  intro ok H locs ls hW hS hl
  exact lv_lstore ok.1 ok.2.1 hd hl hn rfl (fun ls' hl' => h ok H locs ls' hW hS (by have z := lvA_set2 (v := .long x) (fun w _ e => by simp at e; rw [← e]; exact hp) (by simp) hl'; simpa using z))
theorem aw_lstore_6 {K : KT} {M : MT} {T : TT} {pc : Nat} {st : List Value} {n : Nat} {R : Rg} {σ : Sg} {a0 a1 a2 a3 a4 a5 o o2 : Option Value} {r : List (Option Value)} {x : Int64} (hd : decode M.2.1 pc = .ok (.lstore 6, 2)) (hn : 7 < M.2.2.1) (hp : okc a5 = true) (h : AW K M T (pc + 2) (a0 :: a1 :: a2 :: a3 :: a4 :: a5 :: some (.long x) :: none :: r) st n R σ) : AW K M T pc (a0 :: a1 :: a2 :: a3 :: a4 :: a5 :: o :: o2 :: r) (.long x :: st) n R σ := by
  obtain ⟨⟨p, l, e, s, m⟩, ⟨args, below, meth, c⟩, D, g, tw, base, n0⟩ := K
  intro ok H locs ls hW hS hl
  exact lv_lstore ok.1 ok.2.1 hd hl hn rfl (fun ls' hl' => h ok H locs ls' hW hS (by have z := lvA_set2 (v := .long x) (fun w _ e => by simp at e; rw [← e]; exact hp) (by simp) hl'; simpa using z))
theorem aw_lstore_7 {K : KT} {M : MT} {T : TT} {pc : Nat} {st : List Value} {n : Nat} {R : Rg} {σ : Sg} {a0 a1 a2 a3 a4 a5 a6 o o2 : Option Value} {r : List (Option Value)} {x : Int64} (hd : decode M.2.1 pc = .ok (.lstore 7, 2)) (hn : 8 < M.2.2.1) (hp : okc a6 = true) (h : AW K M T (pc + 2) (a0 :: a1 :: a2 :: a3 :: a4 :: a5 :: a6 :: some (.long x) :: none :: r) st n R σ) : AW K M T pc (a0 :: a1 :: a2 :: a3 :: a4 :: a5 :: a6 :: o :: o2 :: r) (.long x :: st) n R σ := by
  obtain ⟨⟨p, l, e, s, m⟩, ⟨args, below, meth, c⟩, D, g, tw, base, n0⟩ := K
  intro ok H locs ls hW hS hl
  exact lv_lstore ok.1 ok.2.1 hd hl hn rfl (fun ls' hl' => h ok H locs ls' hW hS (by have z := lvA_set2 (v := .long x) (fun w _ e => by simp at e; rw [← e]; exact hp) (by simp) hl'; simpa using z))
theorem aw_lstore_8 {K : KT} {M : MT} {T : TT} {pc : Nat} {st : List Value} {n : Nat} {R : Rg} {σ : Sg} {a0 a1 a2 a3 a4 a5 a6 a7 o o2 : Option Value} {r : List (Option Value)} {x : Int64} (hd : decode M.2.1 pc = .ok (.lstore 8, 2)) (hn : 9 < M.2.2.1) (hp : okc a7 = true) (h : AW K M T (pc + 2) (a0 :: a1 :: a2 :: a3 :: a4 :: a5 :: a6 :: a7 :: some (.long x) :: none :: r) st n R σ) : AW K M T pc (a0 :: a1 :: a2 :: a3 :: a4 :: a5 :: a6 :: a7 :: o :: o2 :: r) (.long x :: st) n R σ := by
  obtain ⟨⟨p, l, e, s, m⟩, ⟨args, below, meth, c⟩, D, g, tw, base, n0⟩ := K
  intro ok H locs ls hW hS hl
  exact lv_lstore ok.1 ok.2.1 hd hl hn rfl (fun ls' hl' => h ok H locs ls' hW hS (by have z := lvA_set2 (v := .long x) (fun w _ e => by simp at e; rw [← e]; exact hp) (by simp) hl'; simpa using z))
theorem aw_lstore_9 {K : KT} {M : MT} {T : TT} {pc : Nat} {st : List Value} {n : Nat} {R : Rg} {σ : Sg} {a0 a1 a2 a3 a4 a5 a6 a7 a8 o o2 : Option Value} {r : List (Option Value)} {x : Int64} (hd : decode M.2.1 pc = .ok (.lstore 9, 2)) (hn : 10 < M.2.2.1) (hp : okc a8 = true) (h : AW K M T (pc + 2) (a0 :: a1 :: a2 :: a3 :: a4 :: a5 :: a6 :: a7 :: a8 :: some (.long x) :: none :: r) st n R σ) : AW K M T pc (a0 :: a1 :: a2 :: a3 :: a4 :: a5 :: a6 :: a7 :: a8 :: o :: o2 :: r) (.long x :: st) n R σ := by
  obtain ⟨⟨p, l, e, s, m⟩, ⟨args, below, meth, c⟩, D, g, tw, base, n0⟩ := K
  intro ok H locs ls hW hS hl
  exact lv_lstore ok.1 ok.2.1 hd hl hn rfl (fun ls' hl' => h ok H locs ls' hW hS (by have z := lvA_set2 (v := .long x) (fun w _ e => by simp at e; rw [← e]; exact hp) (by simp) hl'; simpa using z))
theorem aw_lstore_10 {K : KT} {M : MT} {T : TT} {pc : Nat} {st : List Value} {n : Nat} {R : Rg} {σ : Sg} {a0 a1 a2 a3 a4 a5 a6 a7 a8 a9 o o2 : Option Value} {r : List (Option Value)} {x : Int64} (hd : decode M.2.1 pc = .ok (.lstore 10, 2)) (hn : 11 < M.2.2.1) (hp : okc a9 = true) (h : AW K M T (pc + 2) (a0 :: a1 :: a2 :: a3 :: a4 :: a5 :: a6 :: a7 :: a8 :: a9 :: some (.long x) :: none :: r) st n R σ) : AW K M T pc (a0 :: a1 :: a2 :: a3 :: a4 :: a5 :: a6 :: a7 :: a8 :: a9 :: o :: o2 :: r) (.long x :: st) n R σ := by
  obtain ⟨⟨p, l, e, s, m⟩, ⟨args, below, meth, c⟩, D, g, tw, base, n0⟩ := K
  intro ok H locs ls hW hS hl
  exact lv_lstore ok.1 ok.2.1 hd hl hn rfl (fun ls' hl' => h ok H locs ls' hW hS (by have z := lvA_set2 (v := .long x) (fun w _ e => by simp at e; rw [← e]; exact hp) (by simp) hl'; simpa using z))
theorem aw_lstore_11 {K : KT} {M : MT} {T : TT} {pc : Nat} {st : List Value} {n : Nat} {R : Rg} {σ : Sg} {a0 a1 a2 a3 a4 a5 a6 a7 a8 a9 a10 o o2 : Option Value} {r : List (Option Value)} {x : Int64} (hd : decode M.2.1 pc = .ok (.lstore 11, 2)) (hn : 12 < M.2.2.1) (hp : okc a10 = true) (h : AW K M T (pc + 2) (a0 :: a1 :: a2 :: a3 :: a4 :: a5 :: a6 :: a7 :: a8 :: a9 :: a10 :: some (.long x) :: none :: r) st n R σ) : AW K M T pc (a0 :: a1 :: a2 :: a3 :: a4 :: a5 :: a6 :: a7 :: a8 :: a9 :: a10 :: o :: o2 :: r) (.long x :: st) n R σ := by
  obtain ⟨⟨p, l, e, s, m⟩, ⟨args, below, meth, c⟩, D, g, tw, base, n0⟩ := K
  intro ok H locs ls hW hS hl
  exact lv_lstore ok.1 ok.2.1 hd hl hn rfl (fun ls' hl' => h ok H locs ls' hW hS (by have z := lvA_set2 (v := .long x) (fun w _ e => by simp at e; rw [← e]; exact hp) (by simp) hl'; simpa using z))
theorem aw_lstore_12 {K : KT} {M : MT} {T : TT} {pc : Nat} {st : List Value} {n : Nat} {R : Rg} {σ : Sg} {a0 a1 a2 a3 a4 a5 a6 a7 a8 a9 a10 a11 o o2 : Option Value} {r : List (Option Value)} {x : Int64} (hd : decode M.2.1 pc = .ok (.lstore 12, 2)) (hn : 13 < M.2.2.1) (hp : okc a11 = true) (h : AW K M T (pc + 2) (a0 :: a1 :: a2 :: a3 :: a4 :: a5 :: a6 :: a7 :: a8 :: a9 :: a10 :: a11 :: some (.long x) :: none :: r) st n R σ) : AW K M T pc (a0 :: a1 :: a2 :: a3 :: a4 :: a5 :: a6 :: a7 :: a8 :: a9 :: a10 :: a11 :: o :: o2 :: r) (.long x :: st) n R σ := by
  obtain ⟨⟨p, l, e, s, m⟩, ⟨args, below, meth, c⟩, D, g, tw, base, n0⟩ := K
  intro ok H locs ls hW hS hl
  exact lv_lstore ok.1 ok.2.1 hd hl hn rfl (fun ls' hl' => h ok H locs ls' hW hS (by have z := lvA_set2 (v := .long x) (fun w _ e => by simp at e; rw [← e]; exact hp) (by simp) hl'; simpa using z))
theorem aw_astore_0 {K : KT} {M : MT} {T : TT} {pc : Nat} {st : List Value} {n : Nat} {R : Rg} {σ : Sg} {o : Option Value} {r : List (Option Value)} {x : Nat} (hd : decode M.2.1 pc = .ok (.astore_n 0, 1)) (hn : 0 < M.2.2.1) (h : AW K M T (pc + 1) (some (.ref x) :: r) st n R σ) : AW K M T pc (o :: r) (.ref x :: st) n R σ := by
  obtain ⟨⟨p, l, e, s, m⟩, ⟨args, below, meth, c⟩, D, g, tw, base, n0⟩ := K
  intro ok H locs ls hW hS hl
  exact lv_astore_n ok.1 ok.2.1 hd rfl hl hn rfl (fun ls' hl' => h ok H locs ls' hW hS (by have z := lvA_set1 (v := .ref x) (fun w q _ => absurd q (Nat.lt_irrefl 0)) (by simp) hl'; simpa using z))
theorem aw_astore_1 {K : KT} {M : MT} {T : TT} {pc : Nat} {st : List Value} {n : Nat} {R : Rg} {σ : Sg} {a0 o : Option Value} {r : List (Option Value)} {x : Nat} (hd : decode M.2.1 pc = .ok (.astore_n 1, 1)) (hn : 1 < M.2.2.1) (hp : okc a0 = true) (h : AW K M T (pc + 1) (a0 :: some (.ref x) :: r) st n R σ) : AW K M T pc (a0 :: o :: r) (.ref x :: st) n R σ := by
  obtain ⟨⟨p, l, e, s, m⟩, ⟨args, below, meth, c⟩, D, g, tw, base, n0⟩ := K
  intro ok H locs ls hW hS hl
  exact lv_astore_n ok.1 ok.2.1 hd rfl hl hn rfl (fun ls' hl' => h ok H locs ls' hW hS (by have z := lvA_set1 (v := .ref x) (fun w _ e => by simp at e; rw [← e]; exact hp) (by simp) hl'; simpa using z))
theorem aw_astore_2 {K : KT} {M : MT} {T : TT} {pc : Nat} {st : List Value} {n : Nat} {R : Rg} {σ : Sg} {a0 a1 o : Option Value} {r : List (Option Value)} {x : Nat} (hd : decode M.2.1 pc = .ok (.astore_n 2, 1)) (hn : 2 < M.2.2.1) (hp : okc a1 = true) (h : AW K M T (pc + 1) (a0 :: a1 :: some (.ref x) :: r) st n R σ) : AW K M T pc (a0 :: a1 :: o :: r) (.ref x :: st) n R σ := by
  obtain ⟨⟨p, l, e, s, m⟩, ⟨args, below, meth, c⟩, D, g, tw, base, n0⟩ := K
  intro ok H locs ls hW hS hl
  exact lv_astore_n ok.1 ok.2.1 hd rfl hl hn rfl (fun ls' hl' => h ok H locs ls' hW hS (by have z := lvA_set1 (v := .ref x) (fun w _ e => by simp at e; rw [← e]; exact hp) (by simp) hl'; simpa using z))
theorem aw_astore_3 {K : KT} {M : MT} {T : TT} {pc : Nat} {st : List Value} {n : Nat} {R : Rg} {σ : Sg} {a0 a1 a2 o : Option Value} {r : List (Option Value)} {x : Nat} (hd : decode M.2.1 pc = .ok (.astore_n 3, 1)) (hn : 3 < M.2.2.1) (hp : okc a2 = true) (h : AW K M T (pc + 1) (a0 :: a1 :: a2 :: some (.ref x) :: r) st n R σ) : AW K M T pc (a0 :: a1 :: a2 :: o :: r) (.ref x :: st) n R σ := by
  obtain ⟨⟨p, l, e, s, m⟩, ⟨args, below, meth, c⟩, D, g, tw, base, n0⟩ := K
  intro ok H locs ls hW hS hl
  exact lv_astore_n ok.1 ok.2.1 hd rfl hl hn rfl (fun ls' hl' => h ok H locs ls' hW hS (by have z := lvA_set1 (v := .ref x) (fun w _ e => by simp at e; rw [← e]; exact hp) (by simp) hl'; simpa using z))
theorem aw_astore_4 {K : KT} {M : MT} {T : TT} {pc : Nat} {st : List Value} {n : Nat} {R : Rg} {σ : Sg} {a0 a1 a2 a3 o : Option Value} {r : List (Option Value)} {x : Nat} (hd : decode M.2.1 pc = .ok (.astore 4, 2)) (hn : 4 < M.2.2.1) (hp : okc a3 = true) (h : AW K M T (pc + 2) (a0 :: a1 :: a2 :: a3 :: some (.ref x) :: r) st n R σ) : AW K M T pc (a0 :: a1 :: a2 :: a3 :: o :: r) (.ref x :: st) n R σ := by
  obtain ⟨⟨p, l, e, s, m⟩, ⟨args, below, meth, c⟩, D, g, tw, base, n0⟩ := K
  intro ok H locs ls hW hS hl
  exact lv_astore ok.1 ok.2.1 hd hl hn rfl (fun ls' hl' => h ok H locs ls' hW hS (by have z := lvA_set1 (v := .ref x) (fun w _ e => by simp at e; rw [← e]; exact hp) (by simp) hl'; simpa using z))
theorem aw_astore_5 {K : KT} {M : MT} {T : TT} {pc : Nat} {st : List Value} {n : Nat} {R : Rg} {σ : Sg} {a0 a1 a2 a3 a4 o : Option Value} {r : List (Option Value)} {x : Nat} (hd : decode M.2.1 pc = .ok (.astore 5, 2)) (hn : 5 < M.2.2.1) (hp : okc a4 = true) (h : AW K M T (pc + 2) (a0 :: a1 :: a2 :: a3 :: a4 :: some (.ref x) :: r) st n R σ) : AW K M T pc (a0 :: a1 :: a2 :: a3 :: a4 :: o :: r) (.ref x :: st) n R σ := by
  obtain ⟨⟨p, l, e, s, m⟩, ⟨args, below, meth, c⟩, D, g, tw, base, n0⟩ := K
  intro ok H locs ls hW hS hl
  exact lv_astore ok.1 ok.2.1 hd hl hn rfl (fun ls' hl' => h ok H locs ls' hW hS (by have z := lvA_set1 (v := .ref x) (fun w _ e => by simp at e; rw [← e]; exact hp) (by simp) hl'; simpa using z))
theorem aw_astore_6 {K : KT} {M : MT} {T : TT} {pc : Nat} {st : List Value} {n : Nat} {R : Rg} {σ : Sg} {a0 a1 a2 a3 a4 a5 o : Option Value} {r : List (Option Value)} {x : Nat} (hd : decode M.2.1 pc = .ok (.astore 6, 2)) (hn : 6 < M.2.2.1) (hp : okc a5 = true) (h : AW K M T (pc + 2) (a0 :: a1 :: a2 :: a3 :: a4 :: a5 :: some (.ref x) :: r) st n R σ) : AW K M T pc (a0 :: a1 :: a2 :: a3 :: a4 :: a5 :: o :: r) (.ref x :: st) n R σ := by
  obtain ⟨⟨p, l, e, s, m⟩, ⟨args, below, meth, c⟩, D, g, tw, base, n0⟩ := K
  intro ok H locs ls hW hS hl
  exact lv_astore ok.1 ok.2.1 hd hl hn rfl (fun ls' hl' => h ok H locs ls' hW hS (by have z := lvA_set1 (v := .ref x) (fun w _ e => by simp at e; rw [← e]; exact hp) (by simp) hl'; simpa using z))
theorem aw_astore_7 {K : KT} {M : MT} {T : TT} {pc : Nat} {st : List Value} {n : Nat} {R : Rg} {σ : Sg} {a0 a1 a2 a3 a4 a5 a6 o : Option Value} {r : List (Option Value)} {x : Nat} (hd : decode M.2.1 pc = .ok (.astore 7, 2)) (hn : 7 < M.2.2.1) (hp : okc a6 = true) (h : AW K M T (pc + 2) (a0 :: a1 :: a2 :: a3 :: a4 :: a5 :: a6 :: some (.ref x) :: r) st n R σ) : AW K M T pc (a0 :: a1 :: a2 :: a3 :: a4 :: a5 :: a6 :: o :: r) (.ref x :: st) n R σ := by
  obtain ⟨⟨p, l, e, s, m⟩, ⟨args, below, meth, c⟩, D, g, tw, base, n0⟩ := K
  intro ok H locs ls hW hS hl
  exact lv_astore ok.1 ok.2.1 hd hl hn rfl (fun ls' hl' => h ok H locs ls' hW hS (by have z := lvA_set1 (v := .ref x) (fun w _ e => by simp at e; rw [← e]; exact hp) (by simp) hl'; simpa using z))
theorem aw_astore_8 {K : KT} {M : MT} {T : TT} {pc : Nat} {st : List Value} {n : Nat} {R : Rg} {σ : Sg} {a0 a1 a2 a3 a4 a5 a6 a7 o : Option Value} {r : List (Option Value)} {x : Nat} (hd : decode M.2.1 pc = .ok (.astore 8, 2)) (hn : 8 < M.2.2.1) (hp : okc a7 = true) (h : AW K M T (pc + 2) (a0 :: a1 :: a2 :: a3 :: a4 :: a5 :: a6 :: a7 :: some (.ref x) :: r) st n R σ) : AW K M T pc (a0 :: a1 :: a2 :: a3 :: a4 :: a5 :: a6 :: a7 :: o :: r) (.ref x :: st) n R σ := by
  obtain ⟨⟨p, l, e, s, m⟩, ⟨args, below, meth, c⟩, D, g, tw, base, n0⟩ := K
  intro ok H locs ls hW hS hl
  exact lv_astore ok.1 ok.2.1 hd hl hn rfl (fun ls' hl' => h ok H locs ls' hW hS (by have z := lvA_set1 (v := .ref x) (fun w _ e => by simp at e; rw [← e]; exact hp) (by simp) hl'; simpa using z))
theorem aw_astore_9 {K : KT} {M : MT} {T : TT} {pc : Nat} {st : List Value} {n : Nat} {R : Rg} {σ : Sg} {a0 a1 a2 a3 a4 a5 a6 a7 a8 o : Option Value} {r : List (Option Value)} {x : Nat} (hd : decode M.2.1 pc = .ok (.astore 9, 2)) (hn : 9 < M.2.2.1) (hp : okc a8 = true) (h : AW K M T (pc + 2) (a0 :: a1 :: a2 :: a3 :: a4 :: a5 :: a6 :: a7 :: a8 :: some (.ref x) :: r) st n R σ) : AW K M T pc (a0 :: a1 :: a2 :: a3 :: a4 :: a5 :: a6 :: a7 :: a8 :: o :: r) (.ref x :: st) n R σ := by
  obtain ⟨⟨p, l, e, s, m⟩, ⟨args, below, meth, c⟩, D, g, tw, base, n0⟩ := K
  intro ok H locs ls hW hS hl
  exact lv_astore ok.1 ok.2.1 hd hl hn rfl (fun ls' hl' => h ok H locs ls' hW hS (by have z := lvA_set1 (v := .ref x) (fun w _ e => by simp at e; rw [← e]; exact hp) (by simp) hl'; simpa using z))
theorem aw_astore_10 {K : KT} {M : MT} {T : TT} {pc : Nat} {st : List Value} {n : Nat} {R : Rg} {σ : Sg} {a0 a1 a2 a3 a4 a5 a6 a7 a8 a9 o : Option Value} {r : List (Option Value)} {x : Nat} (hd : decode M.2.1 pc = .ok (.astore 10, 2)) (hn : 10 < M.2.2.1) (hp : okc a9 = true) (h : AW K M T (pc + 2) (a0 :: a1 :: a2 :: a3 :: a4 :: a5 :: a6 :: a7 :: a8 :: a9 :: some (.ref x) :: r) st n R σ) : AW K M T pc (a0 :: a1 :: a2 :: a3 :: a4 :: a5 :: a6 :: a7 :: a8 :: a9 :: o :: r) (.ref x :: st) n R σ := by
  obtain ⟨⟨p, l, e, s, m⟩, ⟨args, below, meth, c⟩, D, g, tw, base, n0⟩ := K
  intro ok H locs ls hW hS hl
  exact lv_astore ok.1 ok.2.1 hd hl hn rfl (fun ls' hl' => h ok H locs ls' hW hS (by have z := lvA_set1 (v := .ref x) (fun w _ e => by simp at e; rw [← e]; exact hp) (by simp) hl'; simpa using z))
theorem aw_astore_11 {K : KT} {M : MT} {T : TT} {pc : Nat} {st : List Value} {n : Nat} {R : Rg} {σ : Sg} {a0 a1 a2 a3 a4 a5 a6 a7 a8 a9 a10 o : Option Value} {r : List (Option Value)} {x : Nat} (hd : decode M.2.1 pc = .ok (.astore 11, 2)) (hn : 11 < M.2.2.1) (hp : okc a10 = true) (h : AW K M T (pc + 2) (a0 :: a1 :: a2 :: a3 :: a4 :: a5 :: a6 :: a7 :: a8 :: a9 :: a10 :: some (.ref x) :: r) st n R σ) : AW K M T pc (a0 :: a1 :: a2 :: a3 :: a4 :: a5 :: a6 :: a7 :: a8 :: a9 :: a10 :: o :: r) (.ref x :: st) n R σ := by
  obtain ⟨⟨p, l, e, s, m⟩, ⟨args, below, meth, c⟩, D, g, tw, base, n0⟩ := K
  intro ok H locs ls hW hS hl
  exact lv_astore ok.1 ok.2.1 hd hl hn rfl (fun ls' hl' => h ok H locs ls' hW hS (by have z := lvA_set1 (v := .ref x) (fun w _ e => by simp at e; rw [← e]; exact hp) (by simp) hl'; simpa using z))
theorem aw_astore_12 {K : KT} {M : MT} {T : TT} {pc : Nat} {st : List Value} {n : Nat} {R : Rg} {σ : Sg} {a0 a1 a2 a3 a4 a5 a6 a7 a8 a9 a10 a11 o : Option Value} {r : List (Option Value)} {x : Nat} (hd : decode M.2.1 pc = .ok (.astore 12, 2)) (hn : 12 < M.2.2.1) (hp : okc a11 = true) (h : AW K M T (pc + 2) (a0 :: a1 :: a2 :: a3 :: a4 :: a5 :: a6 :: a7 :: a8 :: a9 :: a10 :: a11 :: some (.ref x) :: r) st n R σ) : AW K M T pc (a0 :: a1 :: a2 :: a3 :: a4 :: a5 :: a6 :: a7 :: a8 :: a9 :: a10 :: a11 :: o :: r) (.ref x :: st) n R σ := by
  obtain ⟨⟨p, l, e, s, m⟩, ⟨args, below, meth, c⟩, D, g, tw, base, n0⟩ := K
  intro ok H locs ls hW hS hl
  exact lv_astore ok.1 ok.2.1 hd hl hn rfl (fun ls' hl' => h ok H locs ls' hW hS (by have z := lvA_set1 (v := .ref x) (fun w _ e => by simp at e; rw [← e]; exact hp) (by simp) hl'; simpa using z))
theorem aw_iinc_0 {K : KT} {M : MT} {T : TT} {pc : Nat} {st : List Value} {n : Nat} {R : Rg} {σ : Sg} {r : List (Option Value)} {x v : Int32} {k : Int} (hd : decode M.2.1 pc = .ok (.iinc 0 k, 3)) (hn : 0 < M.2.2.1) (hv : x + Int32.ofInt k = v) (h : AW K M T (pc + 3) (some (.int v) :: r) st n R σ) : AW K M T pc (some (.int x) :: r) st n R σ := by
  obtain ⟨⟨p, l, e, s, m⟩, ⟨args, below, meth, c⟩, D, g, tw, base, n0⟩ := K
  intro ok H locs ls hW hS hl
  obtain ⟨z, hz⟩ : ∃ z : Nat, (lvA base 0 (some (.int x) :: r))[z]? = some (0, .int x) := List.getElem?_of_mem (lvA_mem.mpr ⟨0, .int x, by simp, by simp [cv]⟩)
  exact lv_iinc ok.1 ok.2.1 hd hl hz hv hn rfl (fun ls' hl' => h ok H locs ls' hW hS (by have z := lvA_set1 (v := .int v) (fun w q _ => absurd q (Nat.lt_irrefl 0)) (by simp) hl'; simpa using z))
theorem aw_iinc_1 {K : KT} {M : MT} {T : TT} {pc : Nat} {st : List Value} {n : Nat} {R : Rg} {σ : Sg} {a0 : Option Value} {r : List (Option Value)} {x v : Int32} {k : Int} (hd : decode M.2.1 pc = .ok (.iinc 1 k, 3)) (hn : 1 < M.2.2.1) (hp : okc a0 = true) (hv : x + Int32.ofInt k = v) (h : AW K M T (pc + 3) (a0 :: some (.int v) :: r) st n R σ) : AW K M T pc (a0 :: some (.int x) :: r) st n R σ := by
  obtain ⟨⟨p, l, e, s, m⟩, ⟨args, below, meth, c⟩, D, g, tw, base, n0⟩ := K
  intro ok H locs ls hW hS hl
  obtain ⟨z, hz⟩ : ∃ z : Nat, (lvA base 0 (a0 :: some (.int x) :: r))[z]? = some (1, .int x) := List.getElem?_of_mem (lvA_mem.mpr ⟨1, .int x, by simp, by simp [cv]⟩)
  exact lv_iinc ok.1 ok.2.1 hd hl hz hv hn rfl (fun ls' hl' => h ok H locs ls' hW hS (by have z := lvA_set1 (v := .int v) (fun w _ e => by simp at e; rw [← e]; exact hp) (by simp) hl'; simpa using z))
theorem aw_iinc_2 {K : KT} {M : MT} {T : TT} {pc : Nat} {st : List Value} {n : Nat} {R : Rg} {σ : Sg} {a0 a1 : Option Value} {r : List (Option Value)} {x v : Int32} {k : Int} (hd : decode M.2.1 pc = .ok (.iinc 2 k, 3)) (hn : 2 < M.2.2.1) (hp : okc a1 = true) (hv : x + Int32.ofInt k = v) (h : AW K M T (pc + 3) (a0 :: a1 :: some (.int v) :: r) st n R σ) : AW K M T pc (a0 :: a1 :: some (.int x) :: r) st n R σ := by
  obtain ⟨⟨p, l, e, s, m⟩, ⟨args, below, meth, c⟩, D, g, tw, base, n0⟩ := K
  intro ok H locs ls hW hS hl
  obtain ⟨z, hz⟩ : ∃ z : Nat, (lvA base 0 (a0 :: a1 :: some (.int x) :: r))[z]? = some (2, .int x) := List.getElem?_of_mem (lvA_mem.mpr ⟨2, .int x, by simp, by simp [cv]⟩)
  exact lv_iinc ok.1 ok.2.1 hd hl hz hv hn rfl (fun ls' hl' => h ok H locs ls' hW hS (by have z := lvA_set1 (v := .int v) (fun w _ e => by simp at e; rw [← e]; exact hp) (by simp) hl'; simpa using z))
theorem aw_iinc_3 {K : KT} {M : MT} {T : TT} {pc : Nat} {st : List Value} {n : Nat} {R : Rg} {σ : Sg} {a0 a1 a2 : Option Value} {r : List (Option Value)} {x v : Int32} {k : Int} (hd : decode M.2.1 pc = .ok (.iinc 3 k, 3)) (hn : 3 < M.2.2.1) (hp : okc a2 = true) (hv : x + Int32.ofInt k = v) (h : AW K M T (pc + 3) (a0 :: a1 :: a2 :: some (.int v) :: r) st n R σ) : AW K M T pc (a0 :: a1 :: a2 :: some (.int x) :: r) st n R σ := by
  obtain ⟨⟨p, l, e, s, m⟩, ⟨args, below, meth, c⟩, D, g, tw, base, n0⟩ := K
  intro ok H locs ls hW hS hl
  obtain ⟨z, hz⟩ : ∃ z : Nat, (lvA base 0 (a0 :: a1 :: a2 :: some (.int x) :: r))[z]? = some (3, .int x) := List.getElem?_of_mem (lvA_mem.mpr ⟨3, .int x, by simp, by simp [cv]⟩)
  exact lv_iinc ok.1 ok.2.1 hd hl hz hv hn rfl (fun ls' hl' => h ok H locs ls' hW hS (by have z := lvA_set1 (v := .int v) (fun w _ e => by simp at e; rw [← e]; exact hp) (by simp) hl'; simpa using z))
theorem aw_iinc_4 {K : KT} {M : MT} {T : TT} {pc : Nat} {st : List Value} {n : Nat} {R : Rg} {σ : Sg} {a0 a1 a2 a3 : Option Value} {r : List (Option Value)} {x v : Int32} {k : Int} (hd : decode M.2.1 pc = .ok (.iinc 4 k, 3)) (hn : 4 < M.2.2.1) (hp : okc a3 = true) (hv : x + Int32.ofInt k = v) (h : AW K M T (pc + 3) (a0 :: a1 :: a2 :: a3 :: some (.int v) :: r) st n R σ) : AW K M T pc (a0 :: a1 :: a2 :: a3 :: some (.int x) :: r) st n R σ := by
  obtain ⟨⟨p, l, e, s, m⟩, ⟨args, below, meth, c⟩, D, g, tw, base, n0⟩ := K
  intro ok H locs ls hW hS hl
  obtain ⟨z, hz⟩ : ∃ z : Nat, (lvA base 0 (a0 :: a1 :: a2 :: a3 :: some (.int x) :: r))[z]? = some (4, .int x) := List.getElem?_of_mem (lvA_mem.mpr ⟨4, .int x, by simp, by simp [cv]⟩)
  exact lv_iinc ok.1 ok.2.1 hd hl hz hv hn rfl (fun ls' hl' => h ok H locs ls' hW hS (by have z := lvA_set1 (v := .int v) (fun w _ e => by simp at e; rw [← e]; exact hp) (by simp) hl'; simpa using z))
theorem aw_iinc_5 {K : KT} {M : MT} {T : TT} {pc : Nat} {st : List Value} {n : Nat} {R : Rg} {σ : Sg} {a0 a1 a2 a3 a4 : Option Value} {r : List (Option Value)} {x v : Int32} {k : Int} (hd : decode M.2.1 pc = .ok (.iinc 5 k, 3)) (hn : 5 < M.2.2.1) (hp : okc a4 = true) (hv : x + Int32.ofInt k = v) (h : AW K M T (pc + 3) (a0 :: a1 :: a2 :: a3 :: a4 :: some (.int v) :: r) st n R σ) : AW K M T pc (a0 :: a1 :: a2 :: a3 :: a4 :: some (.int x) :: r) st n R σ := by
  obtain ⟨⟨p, l, e, s, m⟩, ⟨args, below, meth, c⟩, D, g, tw, base, n0⟩ := K
  intro ok H locs ls hW hS hl
  obtain ⟨z, hz⟩ : ∃ z : Nat, (lvA base 0 (a0 :: a1 :: a2 :: a3 :: a4 :: some (.int x) :: r))[z]? = some (5, .int x) := List.getElem?_of_mem (lvA_mem.mpr ⟨5, .int x, by simp, by simp [cv]⟩)
  exact lv_iinc ok.1 ok.2.1 hd hl hz hv hn rfl (fun ls' hl' => h ok H locs ls' hW hS (by have z := lvA_set1 (v := .int v) (fun w _ e => by simp at e; rw [← e]; exact hp) (by simp) hl'; simpa using z))
theorem aw_iinc_6 {K : KT} {M : MT} {T : TT} {pc : Nat} {st : List Value} {n : Nat} {R : Rg} {σ : Sg} {a0 a1 a2 a3 a4 a5 : Option Value} {r : List (Option Value)} {x v : Int32} {k : Int} (hd : decode M.2.1 pc = .ok (.iinc 6 k, 3)) (hn : 6 < M.2.2.1) (hp : okc a5 = true) (hv : x + Int32.ofInt k = v) (h : AW K M T (pc + 3) (a0 :: a1 :: a2 :: a3 :: a4 :: a5 :: some (.int v) :: r) st n R σ) : AW K M T pc (a0 :: a1 :: a2 :: a3 :: a4 :: a5 :: some (.int x) :: r) st n R σ := by
  obtain ⟨⟨p, l, e, s, m⟩, ⟨args, below, meth, c⟩, D, g, tw, base, n0⟩ := K
  intro ok H locs ls hW hS hl
  obtain ⟨z, hz⟩ : ∃ z : Nat, (lvA base 0 (a0 :: a1 :: a2 :: a3 :: a4 :: a5 :: some (.int x) :: r))[z]? = some (6, .int x) := List.getElem?_of_mem (lvA_mem.mpr ⟨6, .int x, by simp, by simp [cv]⟩)
  exact lv_iinc ok.1 ok.2.1 hd hl hz hv hn rfl (fun ls' hl' => h ok H locs ls' hW hS (by have z := lvA_set1 (v := .int v) (fun w _ e => by simp at e; rw [← e]; exact hp) (by simp) hl'; simpa using z))
theorem aw_iinc_7 {K : KT} {M : MT} {T : TT} {pc : Nat} {st : List Value} {n : Nat} {R : Rg} {σ : Sg} {a0 a1 a2 a3 a4 a5 a6 : Option Value} {r : List (Option Value)} {x v : Int32} {k : Int} (hd : decode M.2.1 pc = .ok (.iinc 7 k, 3)) (hn : 7 < M.2.2.1) (hp : okc a6 = true) (hv : x + Int32.ofInt k = v) (h : AW K M T (pc + 3) (a0 :: a1 :: a2 :: a3 :: a4 :: a5 :: a6 :: some (.int v) :: r) st n R σ) : AW K M T pc (a0 :: a1 :: a2 :: a3 :: a4 :: a5 :: a6 :: some (.int x) :: r) st n R σ := by
  obtain ⟨⟨p, l, e, s, m⟩, ⟨args, below, meth, c⟩, D, g, tw, base, n0⟩ := K
  intro ok H locs ls hW hS hl
  obtain ⟨z, hz⟩ : ∃ z : Nat, (lvA base 0 (a0 :: a1 :: a2 :: a3 :: a4 :: a5 :: a6 :: some (.int x) :: r))[z]? = some (7, .int x) := List.getElem?_of_mem (lvA_mem.mpr ⟨7, .int x, by simp, by simp [cv]⟩)
  exact lv_iinc ok.1 ok.2.1 hd hl hz hv hn rfl (fun ls' hl' => h ok H locs ls' hW hS (by have z := lvA_set1 (v := .int v) (fun w _ e => by simp at e; rw [← e]; exact hp) (by simp) hl'; simpa using z))
theorem aw_iinc_8 {K : KT} {M : MT} {T : TT} {pc : Nat} {st : List Value} {n : Nat} {R : Rg} {σ : Sg} {a0 a1 a2 a3 a4 a5 a6 a7 : Option Value} {r : List (Option Value)} {x v : Int32} {k : Int} (hd : decode M.2.1 pc = .ok (.iinc 8 k, 3)) (hn : 8 < M.2.2.1) (hp : okc a7 = true) (hv : x + Int32.ofInt k = v) (h : AW K M T (pc + 3) (a0 :: a1 :: a2 :: a3 :: a4 :: a5 :: a6 :: a7 :: some (.int v) :: r) st n R σ) : AW K M T pc (a0 :: a1 :: a2 :: a3 :: a4 :: a5 :: a6 :: a7 :: some (.int x) :: r) st n R σ := by
  obtain ⟨⟨p, l, e, s, m⟩, ⟨args, below, meth, c⟩, D, g, tw, base, n0⟩ := K
  intro ok H locs ls hW hS hl
  obtain ⟨z, hz⟩ : ∃ z : Nat, (lvA base 0 (a0 :: a1 :: a2 :: a3 :: a4 :: a5 :: a6 :: a7 :: some (.int x) :: r))[z]? = some (8, .int x) := List.getElem?_of_mem (lvA_mem.mpr ⟨8, .int x, by simp, by simp [cv]⟩)
  exact lv_iinc ok.1 ok.2.1 hd hl hz hv hn rfl (fun ls' hl' => h ok H locs ls' hW hS (by have z := lvA_set1 (v := .int v) (fun w _ e => by simp at e; rw [← e]; exact hp) (by simp) hl'; simpa using z))
theorem aw_iinc_9 {K : KT} {M : MT} {T : TT} {pc : Nat} {st : List Value} {n : Nat} {R : Rg} {σ : Sg} {a0 a1 a2 a3 a4 a5 a6 a7 a8 : Option Value} {r : List (Option Value)} {x v : Int32} {k : Int} (hd : decode M.2.1 pc = .ok (.iinc 9 k, 3)) (hn : 9 < M.2.2.1) (hp : okc a8 = true) (hv : x + Int32.ofInt k = v) (h : AW K M T (pc + 3) (a0 :: a1 :: a2 :: a3 :: a4 :: a5 :: a6 :: a7 :: a8 :: some (.int v) :: r) st n R σ) : AW K M T pc (a0 :: a1 :: a2 :: a3 :: a4 :: a5 :: a6 :: a7 :: a8 :: some (.int x) :: r) st n R σ := by
  obtain ⟨⟨p, l, e, s, m⟩, ⟨args, below, meth, c⟩, D, g, tw, base, n0⟩ := K
  intro ok H locs ls hW hS hl
  obtain ⟨z, hz⟩ : ∃ z : Nat, (lvA base 0 (a0 :: a1 :: a2 :: a3 :: a4 :: a5 :: a6 :: a7 :: a8 :: some (.int x) :: r))[z]? = some (9, .int x) := List.getElem?_of_mem (lvA_mem.mpr ⟨9, .int x, by simp, by simp [cv]⟩)
  exact lv_iinc ok.1 ok.2.1 hd hl hz hv hn rfl (fun ls' hl' => h ok H locs ls' hW hS (by have z := lvA_set1 (v := .int v) (fun w _ e => by simp at e; rw [← e]; exact hp) (by simp) hl'; simpa using z))
theorem aw_iinc_10 {K : KT} {M : MT} {T : TT} {pc : Nat} {st : List Value} {n : Nat} {R : Rg} {σ : Sg} {a0 a1 a2 a3 a4 a5 a6 a7 a8 a9 : Option Value} {r : List (Option Value)} {x v : Int32} {k : Int} (hd : decode M.2.1 pc = .ok (.iinc 10 k, 3)) (hn : 10 < M.2.2.1) (hp : okc a9 = true) (hv : x + Int32.ofInt k = v) (h : AW K M T (pc + 3) (a0 :: a1 :: a2 :: a3 :: a4 :: a5 :: a6 :: a7 :: a8 :: a9 :: some (.int v) :: r) st n R σ) : AW K M T pc (a0 :: a1 :: a2 :: a3 :: a4 :: a5 :: a6 :: a7 :: a8 :: a9 :: some (.int x) :: r) st n R σ := by
  obtain ⟨⟨p, l, e, s, m⟩, ⟨args, below, meth, c⟩, D, g, tw, base, n0⟩ := K
  intro ok H locs ls hW hS hl
  obtain ⟨z, hz⟩ : ∃ z : Nat, (lvA base 0 (a0 :: a1 :: a2 :: a3 :: a4 :: a5 :: a6 :: a7 :: a8 :: a9 :: some (.int x) :: r))[z]? = some (10, .int x) := List.getElem?_of_mem (lvA_mem.mpr ⟨10, .int x, by simp, by simp [cv]⟩)
  exact lv_iinc ok.1 ok.2.1 hd hl hz hv hn rfl (fun ls' hl' => h ok H locs ls' hW hS (by have z := lvA_set1 (v := .int v) (fun w _ e => by simp at e; rw [← e]; exact hp) (by simp) hl'; simpa using z))
theorem aw_iinc_11 {K : KT} {M : MT} {T : TT} {pc : Nat} {st : List Value} {n : Nat} {R : Rg} {σ : Sg} {a0 a1 a2 a3 a4 a5 a6 a7 a8 a9 a10 : Option Value} {r : List (Option Value)} {x v : Int32} {k : Int} (hd : decode M.2.1 pc = .ok (.iinc 11 k, 3)) (hn : 11 < M.2.2.1) (hp : okc a10 = true) (hv : x + Int32.ofInt k = v) (h : AW K M T (pc + 3) (a0 :: a1 :: a2 :: a3 :: a4 :: a5 :: a6 :: a7 :: a8 :: a9 :: a10 :: some (.int v) :: r) st n R σ) : AW K M T pc (a0 :: a1 :: a2 :: a3 :: a4 :: a5 :: a6 :: a7 :: a8 :: a9 :: a10 :: some (.int x) :: r) st n R σ := by
  obtain ⟨⟨p, l, e, s, m⟩, ⟨args, below, meth, c⟩, D, g, tw, base, n0⟩ := K
  intro ok H locs ls hW hS hl
  obtain ⟨z, hz⟩ : ∃ z : Nat, (lvA base 0 (a0 :: a1 :: a2 :: a3 :: a4 :: a5 :: a6 :: a7 :: a8 :: a9 :: a10 :: some (.int x) :: r))[z]? = some (11, .int x) := List.getElem?_of_mem (lvA_mem.mpr ⟨11, .int x, by simp, by simp [cv]⟩)
  exact lv_iinc ok.1 ok.2.1 hd hl hz hv hn rfl (fun ls' hl' => h ok H locs ls' hW hS (by have z := lvA_set1 (v := .int v) (fun w _ e => by simp at e; rw [← e]; exact hp) (by simp) hl'; simpa using z))
theorem aw_iinc_12 {K : KT} {M : MT} {T : TT} {pc : Nat} {st : List Value} {n : Nat} {R : Rg} {σ : Sg} {a0 a1 a2 a3 a4 a5 a6 a7 a8 a9 a10 a11 : Option Value} {r : List (Option Value)} {x v : Int32} {k : Int} (hd : decode M.2.1 pc = .ok (.iinc 12 k, 3)) (hn : 12 < M.2.2.1) (hp : okc a11 = true) (hv : x + Int32.ofInt k = v) (h : AW K M T (pc + 3) (a0 :: a1 :: a2 :: a3 :: a4 :: a5 :: a6 :: a7 :: a8 :: a9 :: a10 :: a11 :: some (.int v) :: r) st n R σ) : AW K M T pc (a0 :: a1 :: a2 :: a3 :: a4 :: a5 :: a6 :: a7 :: a8 :: a9 :: a10 :: a11 :: some (.int x) :: r) st n R σ := by
  obtain ⟨⟨p, l, e, s, m⟩, ⟨args, below, meth, c⟩, D, g, tw, base, n0⟩ := K
  intro ok H locs ls hW hS hl
  obtain ⟨z, hz⟩ : ∃ z : Nat, (lvA base 0 (a0 :: a1 :: a2 :: a3 :: a4 :: a5 :: a6 :: a7 :: a8 :: a9 :: a10 :: a11 :: some (.int x) :: r))[z]? = some (12, .int x) := List.getElem?_of_mem (lvA_mem.mpr ⟨12, .int x, by simp, by simp [cv]⟩)
  exact lv_iinc ok.1 ok.2.1 hd hl hz hv hn rfl (fun ls' hl' => h ok H locs ls' hW hS (by have z := lvA_set1 (v := .int v) (fun w _ e => by simp at e; rw [← e]; exact hp) (by simp) hl'; simpa using z))
theorem aw_kill_0 {K : KT} {M : MT} {T : TT} {pc : Nat} {st : List Value} {n : Nat} {R : Rg} {σ : Sg} {o : Option Value} {r : List (Option Value)} (h : AW K M T pc (none :: r) st n R σ) : AW K M T pc (o :: r) st n R σ := by
  obtain ⟨⟨p, l, e, s, m⟩, ⟨args, below, meth, c⟩, D, g, tw, base, n0⟩ := K
  intro ok H locs ls hW hS hl
  refine h ok H locs ls hW hS (lvA_drop (L := o :: r) (fun j w e => ?_) hl)
  by_cases hj : j = 0
  · subst hj; simp at e
  · have e2 : (none :: r) = (o :: r).set 0 none := by simp
    rw [e2, List.getElem?_set_ne (Ne.symm hj)] at e; exact e
theorem aw_kill_1 {K : KT} {M : MT} {T : TT} {pc : Nat} {st : List Value} {n : Nat} {R : Rg} {σ : Sg} {a0 o : Option Value} {r : List (Option Value)} (h : AW K M T pc (a0 :: none :: r) st n R σ) : AW K M T pc (a0 :: o :: r) st n R σ := by
  obtain ⟨⟨p, l, e, s, m⟩, ⟨args, below, meth, c⟩, D, g, tw, base, n0⟩ := K
  intro ok H locs ls hW hS hl
  refine h ok H locs ls hW hS (lvA_drop (L := a0 :: o :: r) (fun j w e => ?_) hl)
  by_cases hj : j = 1
  · subst hj; simp at e
  · have e2 : (a0 :: none :: r) = (a0 :: o :: r).set 1 none := by simp
    rw [e2, List.getElem?_set_ne (Ne.symm hj)] at e; exact e
theorem aw_kill_2 {K : KT} {M : MT} {T : TT} {pc : Nat} {st : List Value} {n : Nat} {R : Rg} {σ : Sg} {a0 a1 o : Option Value} {r : List (Option Value)} (h : AW K M T pc (a0 :: a1 :: none :: r) st n R σ) : AW K M T pc (a0 :: a1 :: o :: r) st n R σ := by
  obtain ⟨⟨p, l, e, s, m⟩, ⟨args, below, meth, c⟩, D, g, tw, base, n0⟩ := K
  intro ok H locs ls hW hS hl
  refine h ok H locs ls hW hS (lvA_drop (L := a0 :: a1 :: o :: r) (fun j w e => ?_) hl)
  by_cases hj : j = 2
  · subst hj; simp at e
  · have e2 : (a0 :: a1 :: none :: r) = (a0 :: a1 :: o :: r).set 2 none := by simp
    rw [e2, List.getElem?_set_ne (Ne.symm hj)] at e; exact e
theorem aw_kill_3 {K : KT} {M : MT} {T : TT} {pc : Nat} {st : List Value} {n : Nat} {R : Rg} {σ : Sg} {a0 a1 a2 o : Option Value} {r : List (Option Value)} (h : AW K M T pc (a0 :: a1 :: a2 :: none :: r) st n R σ) : AW K M T pc (a0 :: a1 :: a2 :: o :: r) st n R σ := by
  obtain ⟨⟨p, l, e, s, m⟩, ⟨args, below, meth, c⟩, D, g, tw, base, n0⟩ := K
  intro ok H locs ls hW hS hl
  refine h ok H locs ls hW hS (lvA_drop (L := a0 :: a1 :: a2 :: o :: r) (fun j w e => ?_) hl)
  by_cases hj : j = 3
  · subst hj; simp at e
  · have e2 : (a0 :: a1 :: a2 :: none :: r) = (a0 :: a1 :: a2 :: o :: r).set 3 none := by simp
    rw [e2, List.getElem?_set_ne (Ne.symm hj)] at e; exact e
theorem aw_kill_4 {K : KT} {M : MT} {T : TT} {pc : Nat} {st : List Value} {n : Nat} {R : Rg} {σ : Sg} {a0 a1 a2 a3 o : Option Value} {r : List (Option Value)} (h : AW K M T pc (a0 :: a1 :: a2 :: a3 :: none :: r) st n R σ) : AW K M T pc (a0 :: a1 :: a2 :: a3 :: o :: r) st n R σ := by
  obtain ⟨⟨p, l, e, s, m⟩, ⟨args, below, meth, c⟩, D, g, tw, base, n0⟩ := K
  intro ok H locs ls hW hS hl
  refine h ok H locs ls hW hS (lvA_drop (L := a0 :: a1 :: a2 :: a3 :: o :: r) (fun j w e => ?_) hl)
  by_cases hj : j = 4
  · subst hj; simp at e
  · have e2 : (a0 :: a1 :: a2 :: a3 :: none :: r) = (a0 :: a1 :: a2 :: a3 :: o :: r).set 4 none := by simp
    rw [e2, List.getElem?_set_ne (Ne.symm hj)] at e; exact e
theorem aw_kill_5 {K : KT} {M : MT} {T : TT} {pc : Nat} {st : List Value} {n : Nat} {R : Rg} {σ : Sg} {a0 a1 a2 a3 a4 o : Option Value} {r : List (Option Value)} (h : AW K M T pc (a0 :: a1 :: a2 :: a3 :: a4 :: none :: r) st n R σ) : AW K M T pc (a0 :: a1 :: a2 :: a3 :: a4 :: o :: r) st n R σ := by
  obtain ⟨⟨p, l, e, s, m⟩, ⟨args, below, meth, c⟩, D, g, tw, base, n0⟩ := K
  intro ok H locs ls hW hS hl
  refine h ok H locs ls hW hS (lvA_drop (L := a0 :: a1 :: a2 :: a3 :: a4 :: o :: r) (fun j w e => ?_) hl)
  by_cases hj : j = 5
  · subst hj; simp at e
  · have e2 : (a0 :: a1 :: a2 :: a3 :: a4 :: none :: r) = (a0 :: a1 :: a2 :: a3 :: a4 :: o :: r).set 5 none := by simp
    rw [e2, List.getElem?_set_ne (Ne.symm hj)] at e; exact e
theorem aw_kill_6 {K : KT} {M : MT} {T : TT} {pc : Nat} {st : List Value} {n : Nat} {R : Rg} {σ : Sg} {a0 a1 a2 a3 a4 a5 o : Option Value} {r : List (Option Value)} (h : AW K M T pc (a0 :: a1 :: a2 :: a3 :: a4 :: a5 :: none :: r) st n R σ) : AW K M T pc (a0 :: a1 :: a2 :: a3 :: a4 :: a5 :: o :: r) st n R σ := by
  obtain ⟨⟨p, l, e, s, m⟩, ⟨args, below, meth, c⟩, D, g, tw, base, n0⟩ := K
  intro ok H locs ls hW hS hl
  refine h ok H locs ls hW hS (lvA_drop (L := a0 :: a1 :: a2 :: a3 :: a4 :: a5 :: o :: r) (fun j w e => ?_) hl)
  by_cases hj : j = 6
  · subst hj; simp at e
  · have e2 : (a0 :: a1 :: a2 :: a3 :: a4 :: a5 :: none :: r) = (a0 :: a1 :: a2 :: a3 :: a4 :: a5 :: o :: r).set 6 none := by simp
    rw [e2, List.getElem?_set_ne (Ne.symm hj)] at e; exact e
theorem aw_kill_7 {K : KT} {M : MT} {T : TT} {pc : Nat} {st : List Value} {n : Nat} {R : Rg} {σ : Sg} {a0 a1 a2 a3 a4 a5 a6 o : Option Value} {r : List (Option Value)} (h : AW K M T pc (a0 :: a1 :: a2 :: a3 :: a4 :: a5 :: a6 :: none :: r) st n R σ) : AW K M T pc (a0 :: a1 :: a2 :: a3 :: a4 :: a5 :: a6 :: o :: r) st n R σ := by
  obtain ⟨⟨p, l, e, s, m⟩, ⟨args, below, meth, c⟩, D, g, tw, base, n0⟩ := K
  intro ok H locs ls hW hS hl
  refine h ok H locs ls hW hS (lvA_drop (L := a0 :: a1 :: a2 :: a3 :: a4 :: a5 :: a6 :: o :: r) (fun j w e => ?_) hl)
  by_cases hj : j = 7
  · subst hj; simp at e
  · have e2 : (a0 :: a1 :: a2 :: a3 :: a4 :: a5 :: a6 :: none :: r) = (a0 :: a1 :: a2 :: a3 :: a4 :: a5 :: a6 :: o :: r).set 7 none := by simp
    rw [e2, List.getElem?_set_ne (Ne.symm hj)] at e; exact e
theorem aw_kill_8 {K : KT} {M : MT} {T : TT} {pc : Nat} {st : List Value} {n : Nat} {R : Rg} {σ : Sg} {a0 a1 a2 a3 a4 a5 a6 a7 o : Option Value} {r : List (Option Value)} (h : AW K M T pc (a0 :: a1 :: a2 :: a3 :: a4 :: a5 :: a6 :: a7 :: none :: r) st n R σ) : AW K M T pc (a0 :: a1 :: a2 :: a3 :: a4 :: a5 :: a6 :: a7 :: o :: r) st n R σ := by
  obtain ⟨⟨p, l, e, s, m⟩, ⟨args, below, meth, c⟩, D, g, tw, base, n0⟩ := K
  intro ok H locs ls hW hS hl
  refine h ok H locs ls hW hS (lvA_drop (L := a0 :: a1 :: a2 :: a3 :: a4 :: a5 :: a6 :: a7 :: o :: r) (fun j w e => ?_) hl)
  by_cases hj : j = 8
  · subst hj; simp at e
  · have e2 : (a0 :: a1 :: a2 :: a3 :: a4 :: a5 :: a6 :: a7 :: none :: r) = (a0 :: a1 :: a2 :: a3 :: a4 :: a5 :: a6 :: a7 :: o :: r).set 8 none := by simp
    rw [e2, List.getElem?_set_ne (Ne.symm hj)] at e; exact e
theorem aw_kill_9 {K : KT} {M : MT} {T : TT} {pc : Nat} {st : List Value} {n : Nat} {R : Rg} {σ : Sg} {a0 a1 a2 a3 a4 a5 a6 a7 a8 o : Option Value} {r : List (Option Value)} (h : AW K M T pc (a0 :: a1 :: a2 :: a3 :: a4 :: a5 :: a6 :: a7 :: a8 :: none :: r) st n R σ) : AW K M T pc (a0 :: a1 :: a2 :: a3 :: a4 :: a5 :: a6 :: a7 :: a8 :: o :: r) st n R σ := by
  obtain ⟨⟨p, l, e, s, m⟩, ⟨args, below, meth, c⟩, D, g, tw, base, n0⟩ := K
  intro ok H locs ls hW hS hl
  refine h ok H locs ls hW hS (lvA_drop (L := a0 :: a1 :: a2 :: a3 :: a4 :: a5 :: a6 :: a7 :: a8 :: o :: r) (fun j w e => ?_) hl)
  by_cases hj : j = 9
  · subst hj; simp at e
  · have e2 : (a0 :: a1 :: a2 :: a3 :: a4 :: a5 :: a6 :: a7 :: a8 :: none :: r) = (a0 :: a1 :: a2 :: a3 :: a4 :: a5 :: a6 :: a7 :: a8 :: o :: r).set 9 none := by simp
    rw [e2, List.getElem?_set_ne (Ne.symm hj)] at e; exact e
theorem aw_kill_10 {K : KT} {M : MT} {T : TT} {pc : Nat} {st : List Value} {n : Nat} {R : Rg} {σ : Sg} {a0 a1 a2 a3 a4 a5 a6 a7 a8 a9 o : Option Value} {r : List (Option Value)} (h : AW K M T pc (a0 :: a1 :: a2 :: a3 :: a4 :: a5 :: a6 :: a7 :: a8 :: a9 :: none :: r) st n R σ) : AW K M T pc (a0 :: a1 :: a2 :: a3 :: a4 :: a5 :: a6 :: a7 :: a8 :: a9 :: o :: r) st n R σ := by
  obtain ⟨⟨p, l, e, s, m⟩, ⟨args, below, meth, c⟩, D, g, tw, base, n0⟩ := K
  intro ok H locs ls hW hS hl
  refine h ok H locs ls hW hS (lvA_drop (L := a0 :: a1 :: a2 :: a3 :: a4 :: a5 :: a6 :: a7 :: a8 :: a9 :: o :: r) (fun j w e => ?_) hl)
  by_cases hj : j = 10
  · subst hj; simp at e
  · have e2 : (a0 :: a1 :: a2 :: a3 :: a4 :: a5 :: a6 :: a7 :: a8 :: a9 :: none :: r) = (a0 :: a1 :: a2 :: a3 :: a4 :: a5 :: a6 :: a7 :: a8 :: a9 :: o :: r).set 10 none := by simp
    rw [e2, List.getElem?_set_ne (Ne.symm hj)] at e; exact e
theorem aw_kill_11 {K : KT} {M : MT} {T : TT} {pc : Nat} {st : List Value} {n : Nat} {R : Rg} {σ : Sg} {a0 a1 a2 a3 a4 a5 a6 a7 a8 a9 a10 o : Option Value} {r : List (Option Value)} (h : AW K M T pc (a0 :: a1 :: a2 :: a3 :: a4 :: a5 :: a6 :: a7 :: a8 :: a9 :: a10 :: none :: r) st n R σ) : AW K M T pc (a0 :: a1 :: a2 :: a3 :: a4 :: a5 :: a6 :: a7 :: a8 :: a9 :: a10 :: o :: r) st n R σ := by
  obtain ⟨⟨p, l, e, s, m⟩, ⟨args, below, meth, c⟩, D, g, tw, base, n0⟩ := K
  intro ok H locs ls hW hS hl
  refine h ok H locs ls hW hS (lvA_drop (L := a0 :: a1 :: a2 :: a3 :: a4 :: a5 :: a6 :: a7 :: a8 :: a9 :: a10 :: o :: r) (fun j w e => ?_) hl)
  by_cases hj : j = 11
  · subst hj; simp at e
  · have e2 : (a0 :: a1 :: a2 :: a3 :: a4 :: a5 :: a6 :: a7 :: a8 :: a9 :: a10 :: none :: r) = (a0 :: a1 :: a2 :: a3 :: a4 :: a5 :: a6 :: a7 :: a8 :: a9 :: a10 :: o :: r).set 11 none := by simp
    rw [e2, List.getElem?_set_ne (Ne.symm hj)] at e; exact e
theorem aw_kill_12 {K : KT} {M : MT} {T : TT} {pc : Nat} {st : List Value} {n : Nat} {R : Rg} {σ : Sg} {a0 a1 a2 a3 a4 a5 a6 a7 a8 a9 a10 a11 o : Option Value} {r : List (Option Value)} (h : AW K M T pc (a0 :: a1 :: a2 :: a3 :: a4 :: a5 :: a6 :: a7 :: a8 :: a9 :: a10 :: a11 :: none :: r) st n R σ) : AW K M T pc (a0 :: a1 :: a2 :: a3 :: a4 :: a5 :: a6 :: a7 :: a8 :: a9 :: a10 :: a11 :: o :: r) st n R σ := by
  obtain ⟨⟨p, l, e, s, m⟩, ⟨args, below, meth, c⟩, D, g, tw, base, n0⟩ := K
  intro ok H locs ls hW hS hl
  refine h ok H locs ls hW hS (lvA_drop (L := a0 :: a1 :: a2 :: a3 :: a4 :: a5 :: a6 :: a7 :: a8 :: a9 :: a10 :: a11 :: o :: r) (fun j w e => ?_) hl)
  by_cases hj : j = 12
  · subst hj; simp at e
  · have e2 : (a0 :: a1 :: a2 :: a3 :: a4 :: a5 :: a6 :: a7 :: a8 :: a9 :: a10 :: a11 :: none :: r) = (a0 :: a1 :: a2 :: a3 :: a4 :: a5 :: a6 :: a7 :: a8 :: a9 :: a10 :: a11 :: o :: r).set 12 none := by simp
    rw [e2, List.getElem?_set_ne (Ne.symm hj)] at e; exact e

