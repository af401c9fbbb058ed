/-! THE ONE WORLD: cell c of the system lies at base + c; sh: its kind and length; R: what its reference slots hold (cells), σ: its int slots. -/
def shl : List (Nat × Nat) := [(7, 0), (1, 0), (9, 8), (9, 9), (5, 0), (9, 200), (1, 0), (9, 8), (9, 9), (2, 0), (9, 36), (9, 8), (9, 8), (9, 8), (2, 0), (9, 36), (9, 8), (9, 8), (9, 8), (2, 0), (9, 36), (9, 8), (9, 8), (9, 8), (3, 0), (9, 8), (4, 0), (2, 0), (9, 36), (9, 8), (9, 8), (9, 8), (11, 8), (2, 0), (9, 36), (9, 8), (9, 8), (9, 8), (2, 0), (9, 36), (9, 8), (9, 8), (9, 8), (2, 0), (9, 36), (9, 8), (9, 8), (9, 8), (2, 0), (9, 36), (9, 8), (9, 8), (9, 8), (2, 0), (9, 36), (9, 8), (9, 8), (9, 8), (2, 0), (9, 36), (9, 8), (9, 8), (9, 8), (2, 0), (9, 36), (9, 8), (9, 8), (9, 8), (4, 0), (2, 0), (9, 36), (9, 8), (9, 8), (9, 8), (11, 2), (2, 0), (9, 36), (9, 8), (9, 8), (9, 8), (6, 0), (9, 72), (9, 72), (9, 72), (9, 72), (9, 72), (10, 72), (2, 0), (9, 36), (9, 8), (9, 8), (9, 8), (0, 0), (9, 5), (4, 0), (2, 0), (9, 36), (9, 8), (9, 8), (9, 8), (11, 9), (2, 0), (9, 36), (9, 8), (9, 8), (9, 8), (2, 0), (9, 36), (9, 8), (9, 8), (9, 8), (2, 0), (9, 36), (9, 8), (9, 8), (9, 8), (2, 0), (9, 36), (9, 8), (9, 8), (9, 8), (2, 0), (9, 36), (9, 8), (9, 8), (9, 8), (2, 0), (9, 36), (9, 8), (9, 8), (9, 8), (2, 0), (9, 36), (9, 8), (9, 8), (9, 8), (2, 0), (9, 36), (9, 8), (9, 8), (9, 8), (9, 22), (9, 54)]
def sh (c : Nat) : Nat × Nat := shl.getD c (13, 36)
abbrev NT : Nat := 143
def nfl : List Nat := [5, 9, 6, 5, 2, 5, 8, 9, 0]
def nf (k : Nat) : Nat := nfl.getD k 0
def irl : List (List Bool) := [[true, true, true, false, false], [false, false, false, false, false, false, false, true, true], [true, true, true, true, true, false], [true, true, true, false, false], [true, true], [true, true, true, false, false], [true, true, true, true, true, true, true, false], [true, true, true, true, true, true, true, true, false], []]
def isr (k j : Nat) : Bool := (irl.getD k []).getD j false
def rtl : List (List (Option Nat)) := [[some 1, some 4, some 14, some 19, some 24, some 68, some 80, some 92], [none, none, none, none, none, none, none, some 2, some 3], [], [], [some 5, some 6, some 9], [], [none, none, none, none, none, none, none, some 7, some 8], [], [], [some 6, some 10, some 11, some 12, some 13], [], [], [], [], [some 1, some 15, some 16, some 17, some 18], [], [], [], [], [some 1, some 20, some 21, some 22, some 23], [], [], [], [], [some 1, some 26, some 25], [], [some 27, some 32], [some 1, some 28, some 29, some 30, some 31], [], [], [], [], [some 27, some 33, some 38, some 43, some 48, some 53, some 58, some 63], [some 1, some 34, some 35, some 36, some 37], [], [], [], [], [some 1, some 39, some 40, some 41, some 42], [], [], [], [], [some 1, some 44, some 45, some 46, some 47], [], [], [], [], [some 1, some 49, some 50, some 51, some 52], [], [], [], [], [some 1, some 54, some 55, some 56, some 57], [], [], [], [], [some 1, some 59, some 60, some 61, some 62], [], [], [], [], [some 1, some 64, some 65, some 66, some 67], [], [], [], [], [some 69, some 74], [some 1, some 70, some 71, some 72, some 73], [], [], [], [], [some 69, some 75], [some 1, some 76, some 77, some 78, some 79], [], [], [], [], [some 87, some 81, some 82, some 83, some 84, some 85, some 86], [], [], [], [], [], [], [some 1, some 88, some 89, some 90, some 91], [], [], [], [], [some 1, some 94, some 93], [], [some 95, some 100], [some 1, some 96, some 97, some 98, some 99], [], [], [], [], [some 95, some 101, some 106, some 111, some 116, some 121, some 126, some 131, some 136], [some 1, some 102, some 103, some 104, some 105], [], [], [], [], [some 1, some 107, some 108, some 109, some 110], [], [], [], [], [some 1, some 112, some 113, some 114, some 115], [], [], [], [], [some 1, some 117, some 118, some 119, some 120], [], [], [], [], [some 1, some 122, some 123, some 124, some 125], [], [], [], [], [some 1, some 127, some 128, some 129, some 130], [], [], [], [], [some 1, some 132, some 133, some 134, some 135], [], [], [], [], [some 1, some 137, some 138, some 139, some 140], [], [], [], [], [], []]
def R0 (c k : Nat) : Option Nat := (rtl.getD c []).getD k none
abbrev cls : List vw_C := [(RX0, TX0, 5), (RX1, TX1, 9), (RX2, TX2, 6), (RX3, TX3, 5), (RX4, TX4, 2), (RX5, TX5, 5), (RX6, TX6, 8), (RX7, TX7, 9), (RX7, TX8, 0)]
abbrev Sg : Type := Nat → Nat → Int32
abbrev Rg : Type := Nat → Nat → Option Nat
def up (σ : Sg) (c k : Nat) (v : Int32) : Sg := fun a j => if a = c ∧ j = k then v else σ a j
def upr (R : Rg) (c k : Nat) (v : Option Nat) : Rg := fun a j => if a = c ∧ j = k then v else R a j
def csz (c : Nat) : Nat := if (sh c).1 < 9 then nf (sh c).1 else (sh c).2
def szs : Nat → Nat
  | 0 => 0
  | n + 1 => szs n + csz n
theorem szs_le {a b : Nat} (h : a ≤ b) : szs a ≤ szs b := by
  induction h with
  | refl => exact Nat.le_refl _
  | step _ ih => exact Nat.le_trans ih (Nat.le_add_right _ _)
def cv (bt : Nat × (Nat → Nat)) (v : Value) : Value := match v with
  | .ref c => .ref (bt.1 + c)
  | .retAddr k => .ref (bt.2 k)
  | v => v
theorem cv_cat (base : Nat × (Nat → Nat)) (v : Value) : (cv base v).category = v.category := by cases v <;> rfl
def fv (base : Nat) (R : Rg) (σ : Sg) (c j : Nat) : Value := if isr (sh c).1 j = true then va_rf ((R c j).map (fun d => base + d)) else .int (σ c j)
def dl (σ : Sg) (c : Nat) : Nat := min 36 (σ c 99).toNatClampNeg
abbrev CG : Type := ClassId × ClassId × ClassId
def cE (g : CG) (base : Nat) (R : Rg) (σ : Sg) (c : Nat) : va_E :=
  if (sh c).1 < 9 then .inr ((sh c).1, (List.range (nf (sh c).1)).map (fv base R σ c))
  else if (sh c).1 = 9 then .inl (g.1, (sh c).2, .inl (σ c))
  else if (sh c).1 = 10 then .inl (g.2.1, (sh c).2, .inl (σ c))
  else if (sh c).1 = 13 then .inl (g.1, dl σ c, .inl (σ c))
  else .inl (g.2.2, (sh c).2, .inr (.inr (.inr (.inr (fun j => (R c j).map (fun d => base + d))))))
def WD (D : va_G) (g : CG) (base n : Nat) (R : Rg) (σ : Sg) (H : Heap) : Prop := H.size = base + n ∧ ∀ c, c < n → va_at D cls (base + c, cE g base R σ c) H
def wT : List Cond := lw_tbl.filter goodWord
theorem wT_sub {w : Cond} (h : w ∈ wT) : w ∈ lw_tbl := (List.mem_filter.mp h).1
theorem wTi {w : Cond} (i : Nat) (h : lw_tbl[i]? = some w) (hg : goodWord w = true) : w ∈ wT := List.mem_filter.mpr ⟨List.mem_of_getElem? h, hg⟩
theorem gT {ws : List Cond} (h : ∀ w ∈ ws, w ∈ wT) : GoodIn wT ws := fun w hw => ⟨h w hw, good_of_word (List.mem_filter.mp (h w hw)).2⟩
/-- own class, code, locals, return type, depth of calls -/
abbrev MT : Type := String × ByteArray × Nat × Option FieldType × Nat
def roomOf (d n0 n1 : Nat) : Room := { frames := d, cells := n1 - n0, slots := szs n1 - szs n0, locals := 100 * d }
def wsI : Nat → Int32 := fun j => match j with
  | 0 => 5
  | 1 => 3
  | 2 => 1
  | _ => 20
def worths : Nat → Value := fun j => .int (wsI j)
def nestW : List Cond := [.fieldLinkNest "SheepChess$Meadow" 136 "SheepChess" "WORTHS" "[I" "SheepChess", .methodLinkNest "SheepChess$Sheet" 89 ⟨"SheepChess", "isVillage", "(I)Z"⟩ "SheepChess", .methodLinkNest "SheepChess" 9 ⟨"SheepChess$Land", "<init>", "()V"⟩ "SheepChess", .methodLinkNest "SheepChess" 18 ⟨"SheepChess$Sheet", "<init>", "()V"⟩ "SheepChess", .methodLinkNest "SheepChess$Sheet" 17 ⟨"SheepChess$Land", "<init>", "()V"⟩ "SheepChess"]
theorem nest_warm {s U : State} (hW : s.WarmedH U.vm) (h : ∀ w ∈ nestW, va_Nw w s) : ∀ w ∈ nestW, va_Nw w U := by
  simp only [nestW, List.forall_mem_cons] at h ⊢
  exact ⟨va_Nw.warmF hW h.1, va_Nw.warmM hW h.2.1, va_Nw.warmM hW h.2.2.1, va_Nw.warmM hW h.2.2.2.1, va_Nw.warmM hW h.2.2.2.2.1, fun _ z => absurd z List.not_mem_nil⟩
theorem nest_same {s U : State} (hv : s.vm = U.vm) (h : ∀ w ∈ nestW, va_Nw w s) : ∀ w ∈ nestW, va_Nw w U := by
  simp only [nestW, List.forall_mem_cons] at h ⊢
  exact ⟨va_Nw.same rfl hv h.1, va_Nw.same rfl hv h.2.1, va_Nw.same rfl hv h.2.2.1, va_Nw.same rfl hv h.2.2.2.1, va_Nw.same rfl hv h.2.2.2.2.1, fun _ z => absurd z List.not_mem_nil⟩
def firstT : String := "r01203;r30092;r00410;r29000;r00130;b0,0,22;b1,0,20;b2,0,21;b3,0,24;b0,1,2;b1,1,4;b2,1,1;b3,1,0;w7;h3;s0;s0;s0;s1;"
def firstB : List Int32 := [114, 48, 49, 50, 48, 51, 59, 114, 51, 48, 48, 57, 50, 59, 114, 48, 48, 52, 49, 48, 59, 114, 50, 57, 48, 48, 48, 59, 114, 48, 48, 49, 51, 48, 59, 98, 48, 44, 48, 44, 50, 50, 59, 98, 49, 44, 48, 44, 50, 48, 59, 98, 50, 44, 48, 44, 50, 49, 59, 98, 51, 44, 48, 44, 50, 52, 59, 98, 48, 44, 49, 44, 50, 59, 98, 49, 44, 49, 44, 52, 59, 98, 50, 44, 49, 44, 49, 59, 98, 51, 44, 49, 44, 48, 59, 119, 55, 59, 104, 51, 59, 115, 48, 59, 115, 48, 59, 115, 48, 59, 115, 49, 59]
/-- the text at first: a String outside of our cells: ext 2, its bytes: ext 3 -/
def SF (ext : Nat → Nat) (base : Nat) (U : State) (H : Heap) : Prop := va_Z "java/lang/String" "COMPACT_STRINGS" "Z" (.int 1) (fun q => base ≤ q) U H ∧ vk_R "SheepChess" 69 firstT (ext 2) U ∧ va_O "java/lang/String" (ext 2) (fun q => base ≤ q) U H ∧ va_OF "java/lang/String" "coder" "B" (.int 0) (ext 2) (fun q => base ≤ q) U H ∧ va_OF "java/lang/String" "value" "[B" (.ref (ext 3)) (ext 2) (fun q => base ≤ q) U H ∧ va_T .byte (ext 3) 113 (fun j => .int (firstB.getD j 0)) (fun q => base ≤ q) U H
theorem SF.moved {ext : Nat → Nat} {base : Nat} {u U : State} {H H1 : Heap} (hW : u.WarmedH U.vm) (h : SF ext base u H) (hq : ∀ a : Nat, a < H.size → ¬ base ≤ a → H1[a]? = H[a]?) : SF ext base U H1 :=
  ⟨(va_Z.moved hW.alike h.1).kept hq, vk_R.warm hW h.2.1, (va_O.moved hW.alike h.2.2.1).kept hq, (va_OF.moved hW.alike h.2.2.2.1).kept hq, (va_OF.moved hW.alike h.2.2.2.2.1).kept hq, (va_T.moved hW.alike h.2.2.2.2.2).kept hq⟩
/-- what the tables say of the classes; the static table (ext 0) -/
def KS (D : va_G) (g : CG) (ext : Nat → Nat) (base : Nat) (U : State) (H : Heap) : Prop := va_K D cls [(g.1, .int), (g.2.1, .boolean), (g.2.2, .object RX2)] U ∧ va_Z "SheepChess" "WORTHS" "[I" (.ref (ext 0)) (fun q => base ≤ q) U H ∧ va_T .int (ext 0) 4 worths (fun q => base ≤ q) U H ∧ (∀ w ∈ nestW, va_Nw w U) ∧ SF ext base U H
theorem KS.moved {D : va_G} {g : CG} {ext : Nat → Nat} {base : Nat} {u U : State} {H H1 : Heap} (hW : u.WarmedH U.vm) (h : KS D g ext base u H) (hq : ∀ a : Nat, a < H.size → ¬ base ≤ a → H1[a]? = H[a]?) : KS D g ext base U H1 :=
  ⟨va_K.moved hW.alike h.1, (va_Z.moved hW.alike h.2.1).kept hq, (va_T.moved hW.alike h.2.2.1).kept hq, nest_warm hW h.2.2.2.1, SF.moved hW h.2.2.2.2 hq⟩
theorem KS.same {D : va_G} {g : CG} {ext : Nat → Nat} {base : Nat} {u U : State} {H : Heap} (hv : u.vm = U.vm) (h : KS D g ext base u H) : KS D g ext base U H :=
  have ha : u.vm.Alike U.vm := by rw [hv]; exact Vm.Alike.refl U.vm
  have f := h.2.2.2.2
  ⟨va_K.moved ha h.1, va_Z.moved ha h.2.1, va_T.moved ha h.2.2.1, nest_same hv h.2.2.2.1, va_Z.moved ha f.1, vk_R.same hv.symm f.2.1, va_O.moved ha f.2.2.1, va_OF.moved ha f.2.2.2.1, va_OF.moved ha f.2.2.2.2.1, va_T.moved ha f.2.2.2.2.2⟩
/-- what a method must come to: its answer, and the world then -/
abbrev TT : Type := Option Value × Nat × Rg × Sg
def QC (D : va_G) (g : CG) (base : Nat) (ext : Nat → Nat) (T : TT) : Array Value → State → Outcome → State → Prop := fun _ st oc t =>
  (oc = .returned (T.1.map (cv (base, ext))) ∧ WD D g base T.2.1 T.2.2.1 T.2.2.2 t.heap) ∧ va_F (fun q => base ≤ q) st t
def AMc (y : MethodName) (M : MT) (av : List Value) (n : Nat) (R : Rg) (σ : Sg) (T : TT) : Prop := ∀ (l : Launch) (D : va_G) (g : CG) (ext : Nat → Nat) (base : Nat),
  Met l y (.code y M.2.1 M.2.2.1 M.2.2.2.1 :: wT) (roomOf M.2.2.2.2 n T.2.1) (va_Pc (av.map (cv (base, ext))) (fun U => WD D g base n R σ U.heap ∧ KS D g ext base U U.heap)) (QC D g base ext T) (T.2.1 - n) (szs T.2.1 - szs n) (fun q => base ≤ q)
/-- locals by their places -/
def lvA (base : Nat × (Nat → Nat)) : Nat → List (Option Value) → List (Nat × Value)
  | _, [] => []
  | k, none :: r => lvA base (k + 1) r
  | k, some v :: r => (k, cv base v) :: lvA base (k + 1) r
theorem lvA_mem {base : Nat × (Nat → Nat)} : ∀ {L : List (Option Value)} {k : Nat} {q : Nat × Value}, q ∈ lvA base k L ↔ ∃ i v, L[i]? = some (some v) ∧ q = (k + i, cv base v)
  | [], k, q => by simp [lvA]
  | none :: r, k, q => by
    rw [lvA, lvA_mem]
    constructor
    · rintro ⟨i, v, h1, h2⟩
      exact ⟨i + 1, v, by simpa using h1, by rw [h2]; congr 1; omega⟩
    · rintro ⟨i, v, h1, h2⟩
      cases i with
      | zero => simp at h1
      | succ i => exact ⟨i, v, by simpa using h1, by rw [h2]; congr 1; omega⟩
  | some w :: r, k, q => by
    rw [lvA, List.mem_cons, lvA_mem]
    constructor
    · rintro (h | ⟨i, v, h1, h2⟩)
      · exact ⟨0, w, by simp, by rw [h]; simp⟩
      · exact ⟨i + 1, v, by simpa using h1, by rw [h2]; congr 1; omega⟩
    · rintro ⟨i, v, h1, h2⟩
      cases i with
      | zero =>
        left
        simp at h1
        rw [h2, h1]; simp
      | succ i => exact Or.inr ⟨i, v, by simpa using h1, by rw [h2]; congr 1; omega⟩
abbrev KT : Type := (Program × Launch × Env × State × MethodId) × (Array Value × List Frame × Method × Code) × va_G × CG × (Nat → Nat) × Nat × Nat × Room
def KOK (K : KT) (M : MT) (T : TT) (nn : Nat) : Prop := match K with
  | ((p, l, e, s, m), (args, below, meth, c), D, g, ext, base, n0, rm) => p.tables.exec = Jvm.exec ∧ c.code = M.2.1 ∧ meth.sig.returnType = M.2.2.2.1 ∧ c.maxLocals = M.2.2.1 ∧ s.vm.findClass M.1 = some m.cls ∧ (∀ w ∈ wT, w.before args s = true) ∧ KS D g ext base s s.heap ∧ meth.locks = false ∧ base ≤ s.heap.size ∧ n0 ≤ nn ∧ nn ≤ T.2.1 ∧ M.2.2.2.2 ≤ rm.frames ∧ 100 * M.2.2.2.2 ≤ rm.locals ∧ T.2.1 - n0 ≤ rm.cells ∧ szs T.2.1 - szs n0 ≤ rm.slots
def AW (K : KT) (M : MT) (T : TT) (pc : Nat) (L : List (Option Value)) (st : List Value) (n : Nat) (R : Rg) (σ : Sg) : Prop := KOK K M T n → match K with
  | ((p, l, e, s, m), (args, below, meth, c), D, g, ext, base, n0, rm) => ∀ (H : Heap) (locs : List Loc) (ls : Array Slot), WD D g base n R σ H → va_S (fun q => base ≤ q) s.heap H locs → lv_has ls M.2.2.1 (lvA (base, ext) 0 L) →
      W p l e rm s m args below meth c H locs (n - n0) (szs n - szs n0) (MQ below (QC D g base ext T) args s (T.2.1 - n0) (szs T.2.1 - szs n0) (fun q => base ≤ q)) (F0 m pc ls (st.map (cv (base, ext))))

def rmI (x y : Int32) : Int32 := x - x / y * y
def rmL (x y : Int64) : Int64 := x - x / y * y
theorem aw_iconst {K : KT} {M : MT} {T : TT} {pc : Nat} {L : List (Option Value)} {st : List Value} {n : Nat} {R : Rg} {σ : Sg} {k : Int} {v : Int32} (hv : Int32.ofInt k = v) (hd : decode M.2.1 pc = .ok (.iconst k, 1)) (h : AW K M T (pc + 1) L (.int v :: st) n R σ) : AW K M T pc L (st) n R σ := by
  obtain ⟨⟨p, l, e, s, m⟩, ⟨args, below, meth, c⟩, D, g, ext, base, n0, rm⟩ := K
  intro ok H locs ls hW hS hl
  exact lv_iconst ok.1 ok.2.1 hd hv (h ok H locs ls hW hS hl)
theorem aw_bipush {K : KT} {M : MT} {T : TT} {pc : Nat} {L : List (Option Value)} {st : List Value} {n : Nat} {R : Rg} {σ : Sg} {k : Int} {v : Int32} (hv : (Int8.ofInt k).toInt32 = v) (hd : decode M.2.1 pc = .ok (.bipush k, 2)) (h : AW K M T (pc + 2) L (.int v :: st) n R σ) : AW K M T pc L (st) n R σ := by
  obtain ⟨⟨p, l, e, s, m⟩, ⟨args, below, meth, c⟩, D, g, ext, base, n0, rm⟩ := K
  intro ok H locs ls hW hS hl
  exact lv_bipush ok.1 ok.2.1 hd hv (h ok H locs ls hW hS hl)
theorem aw_sipush {K : KT} {M : MT} {T : TT} {pc : Nat} {L : List (Option Value)} {st : List Value} {n : Nat} {R : Rg} {σ : Sg} {k : Int} {v : Int32} (hv : (Int16.ofInt k).toInt32 = v) (hd : decode M.2.1 pc = .ok (.sipush k, 3)) (h : AW K M T (pc + 3) L (.int v :: st) n R σ) : AW K M T pc L (st) n R σ := by
  obtain ⟨⟨p, l, e, s, m⟩, ⟨args, below, meth, c⟩, D, g, ext, base, n0, rm⟩ := K
  intro ok H locs ls hW hS hl
  exact lv_sipush ok.1 ok.2.1 hd hv (h ok H locs ls hW hS hl)
theorem aw_lconst {K : KT} {M : MT} {T : TT} {pc : Nat} {L : List (Option Value)} {st : List Value} {n : Nat} {R : Rg} {σ : Sg} {k : Fin 2} {v : Int64} (hv : Int64.ofNat (k : Nat) = v) (hd : decode M.2.1 pc = .ok (.lconst k, 1)) (h : AW K M T (pc + 1) L (.long v :: st) n R σ) : AW K M T pc L (st) n R σ := by
  obtain ⟨⟨p, l, e, s, m⟩, ⟨args, below, meth, c⟩, D, g, ext, base, n0, rm⟩ := K
  intro ok H locs ls hW hS hl
  exact lv_lconst ok.1 ok.2.1 hd hv (h ok H locs ls hW hS hl)
theorem aw_iadd {K : KT} {M : MT} {T : TT} {pc : Nat} {L : List (Option Value)} {st : List Value} {n : Nat} {R : Rg} {σ : Sg} {x y : Int32} (hd : decode M.2.1 pc = .ok (.iadd, 1)) (h : AW K M T (pc + 1) L (.int (x + y) :: st) n R σ) : AW K M T pc L (.int y :: .int x :: st) n R σ := by
  obtain ⟨⟨p, l, e, s, m⟩, ⟨args, below, meth, c⟩, D, g, ext, base, n0, rm⟩ := K
  intro ok H locs ls hW hS hl
  exact lv_iadd ok.1 ok.2.1 hd (h ok H locs ls hW hS hl)
theorem aw_isub {K : KT} {M : MT} {T : TT} {pc : Nat} {L : List (Option Value)} {st : List Value} {n : Nat} {R : Rg} {σ : Sg} {x y : Int32} (hd : decode M.2.1 pc = .ok (.isub, 1)) (h : AW K M T (pc + 1) L (.int (x - y) :: st) n R σ) : AW K M T pc L (.int y :: .int x :: st) n R σ := by
  obtain ⟨⟨p, l, e, s, m⟩, ⟨args, below, meth, c⟩, D, g, ext, base, n0, rm⟩ := K
  intro ok H locs ls hW hS hl
  exact lv_isub ok.1 ok.2.1 hd (h ok H locs ls hW hS hl)
theorem aw_imul {K : KT} {M : MT} {T : TT} {pc : Nat} {L : List (Option Value)} {st : List Value} {n : Nat} {R : Rg} {σ : Sg} {x y : Int32} (hd : decode M.2.1 pc = .ok (.imul, 1)) (h : AW K M T (pc + 1) L (.int (x * y) :: st) n R σ) : AW K M T pc L (.int y :: .int x :: st) n R σ := by
  obtain ⟨⟨p, l, e, s, m⟩, ⟨args, below, meth, c⟩, D, g, ext, base, n0, rm⟩ := K
  intro ok H locs ls hW hS hl
  exact lv_imul ok.1 ok.2.1 hd (h ok H locs ls hW hS hl)
theorem aw_iand {K : KT} {M : MT} {T : TT} {pc : Nat} {L : List (Option Value)} {st : List Value} {n : Nat} {R : Rg} {σ : Sg} {x y : Int32} (hd : decode M.2.1 pc = .ok (.iand, 1)) (h : AW K M T (pc + 1) L (.int (x &&& y) :: st) n R σ) : AW K M T pc L (.int y :: .int x :: st) n R σ := by
  obtain ⟨⟨p, l, e, s, m⟩, ⟨args, below, meth, c⟩, D, g, ext, base, n0, rm⟩ := K
  intro ok H locs ls hW hS hl
  exact lv_iand ok.1 ok.2.1 hd (h ok H locs ls hW hS hl)
theorem aw_ior {K : KT} {M : MT} {T : TT} {pc : Nat} {L : List (Option Value)} {st : List Value} {n : Nat} {R : Rg} {σ : Sg} {x y : Int32} (hd : decode M.2.1 pc = .ok (.ior, 1)) (h : AW K M T (pc + 1) L (.int (x ||| y) :: st) n R σ) : AW K M T pc L (.int y :: .int x :: st) n R σ := by
  obtain ⟨⟨p, l, e, s, m⟩, ⟨args, below, meth, c⟩, D, g, ext, base, n0, rm⟩ := K
  intro ok H locs ls hW hS hl
  exact lv_ior ok.1 ok.2.1 hd (h ok H locs ls hW hS hl)
theorem aw_ixor {K : KT} {M : MT} {T : TT} {pc : Nat} {L : List (Option Value)} {st : List Value} {n : Nat} {R : Rg} {σ : Sg} {x y : Int32} (hd : decode M.2.1 pc = .ok (.ixor, 1)) (h : AW K M T (pc + 1) L (.int (x ^^^ y) :: st) n R σ) : AW K M T pc L (.int y :: .int x :: st) n R σ := by
  obtain ⟨⟨p, l, e, s, m⟩, ⟨args, below, meth, c⟩, D, g, ext, base, n0, rm⟩ := K
  intro ok H locs ls hW hS hl
  exact lv_ixor ok.1 ok.2.1 hd (h ok H locs ls hW hS hl)
theorem aw_ishl {K : KT} {M : MT} {T : TT} {pc : Nat} {L : List (Option Value)} {st : List Value} {n : Nat} {R : Rg} {σ : Sg} {x y : Int32} (hd : decode M.2.1 pc = .ok (.ishl, 1)) (h : AW K M T (pc + 1) L (.int (x <<< (y &&& 31)) :: st) n R σ) : AW K M T pc L (.int y :: .int x :: st) n R σ := by
  obtain ⟨⟨p, l, e, s, m⟩, ⟨args, below, meth, c⟩, D, g, ext, base, n0, rm⟩ := K
  intro ok H locs ls hW hS hl
  exact lv_ishl ok.1 ok.2.1 hd (h ok H locs ls hW hS hl)
theorem aw_ishr {K : KT} {M : MT} {T : TT} {pc : Nat} {L : List (Option Value)} {st : List Value} {n : Nat} {R : Rg} {σ : Sg} {x y : Int32} (hd : decode M.2.1 pc = .ok (.ishr, 1)) (h : AW K M T (pc + 1) L (.int (x >>> (y &&& 31)) :: st) n R σ) : AW K M T pc L (.int y :: .int x :: st) n R σ := by
  obtain ⟨⟨p, l, e, s, m⟩, ⟨args, below, meth, c⟩, D, g, ext, base, n0, rm⟩ := K
  intro ok H locs ls hW hS hl
  exact lv_ishr ok.1 ok.2.1 hd (h ok H locs ls hW hS hl)
theorem aw_idiv {K : KT} {M : MT} {T : TT} {pc : Nat} {L : List (Option Value)} {st : List Value} {n : Nat} {R : Rg} {σ : Sg} {x y : Int32} (hne : ¬ y = 0) (hd : decode M.2.1 pc = .ok (.idiv, 1)) (h : AW K M T (pc + 1) L (.int (x / y) :: st) n R σ) : AW K M T pc L (.int y :: .int x :: st) n R σ := by
  obtain ⟨⟨p, l, e, s, m⟩, ⟨args, below, meth, c⟩, D, g, ext, base, n0, rm⟩ := K
  intro ok H locs ls hW hS hl
  exact lv_idiv ok.1 ok.2.1 hd hne (h ok H locs ls hW hS hl)
theorem aw_irem {K : KT} {M : MT} {T : TT} {pc : Nat} {L : List (Option Value)} {st : List Value} {n : Nat} {R : Rg} {σ : Sg} {x y : Int32} (hne : ¬ y = 0) (hd : decode M.2.1 pc = .ok (.irem, 1)) (h : AW K M T (pc + 1) L (.int (rmI x y) :: st) n R σ) : AW K M T pc L (.int y :: .int x :: st) n R σ := by
  obtain ⟨⟨p, l, e, s, m⟩, ⟨args, below, meth, c⟩, D, g, ext, base, n0, rm⟩ := K
  intro ok H locs ls hW hS hl
  exact lv_irem ok.1 ok.2.1 hd hne (h ok H locs ls hW hS hl)
theorem aw_ladd {K : KT} {M : MT} {T : TT} {pc : Nat} {L : List (Option Value)} {st : List Value} {n : Nat} {R : Rg} {σ : Sg} {x y : Int64} (hd : decode M.2.1 pc = .ok (.ladd, 1)) (h : AW K M T (pc + 1) L (.long (x + y) :: st) n R σ) : AW K M T pc L (.long y :: .long x :: st) n R σ := by
  obtain ⟨⟨p, l, e, s, m⟩, ⟨args, below, meth, c⟩, D, g, ext, base, n0, rm⟩ := K
  intro ok H locs ls hW hS hl
  exact lv_ladd ok.1 ok.2.1 hd (h ok H locs ls hW hS hl)
theorem aw_lmul {K : KT} {M : MT} {T : TT} {pc : Nat} {L : List (Option Value)} {st : List Value} {n : Nat} {R : Rg} {σ : Sg} {x y : Int64} (hd : decode M.2.1 pc = .ok (.lmul, 1)) (h : AW K M T (pc + 1) L (.long (x * y) :: st) n R σ) : AW K M T pc L (.long y :: .long x :: st) n R σ := by
  obtain ⟨⟨p, l, e, s, m⟩, ⟨args, below, meth, c⟩, D, g, ext, base, n0, rm⟩ := K
  intro ok H locs ls hW hS hl
  exact lv_lmul ok.1 ok.2.1 hd (h ok H locs ls hW hS hl)
theorem aw_ldiv {K : KT} {M : MT} {T : TT} {pc : Nat} {L : List (Option Value)} {st : List Value} {n : Nat} {R : Rg} {σ : Sg} {x y : Int64} (hne : ¬ y = 0) (hd : decode M.2.1 pc = .ok (.ldiv, 1)) (h : AW K M T (pc + 1) L (.long (x / y) :: st) n R σ) : AW K M T pc L (.long y :: .long x :: st) n R σ := by
  obtain ⟨⟨p, l, e, s, m⟩, ⟨args, below, meth, c⟩, D, g, ext, base, n0, rm⟩ := K
  intro ok H locs ls hW hS hl
  exact lv_ldiv ok.1 ok.2.1 hd hne (h ok H locs ls hW hS hl)
theorem aw_lrem {K : KT} {M : MT} {T : TT} {pc : Nat} {L : List (Option Value)} {st : List Value} {n : Nat} {R : Rg} {σ : Sg} {x y : Int64} (hne : ¬ y = 0) (hd : decode M.2.1 pc = .ok (.lrem, 1)) (h : AW K M T (pc + 1) L (.long (rmL x y) :: st) n R σ) : AW K M T pc L (.long y :: .long x :: st) n R σ := by
  obtain ⟨⟨p, l, e, s, m⟩, ⟨args, below, meth, c⟩, D, g, ext, base, n0, rm⟩ := K
  intro ok H locs ls hW hS hl
  exact lv_lrem ok.1 ok.2.1 hd hne (h ok H locs ls hW hS hl)
theorem aw_lcmp {K : KT} {M : MT} {T : TT} {pc : Nat} {L : List (Option Value)} {st : List Value} {n : Nat} {R : Rg} {σ : Sg} {x y : Int64} (hd : decode M.2.1 pc = .ok (.lcmp, 1)) (h : AW K M T (pc + 1) L (.int (lg_cmp x y) :: st) n R σ) : AW K M T pc L (.long y :: .long x :: st) n R σ := by
  obtain ⟨⟨p, l, e, s, m⟩, ⟨args, below, meth, c⟩, D, g, ext, base, n0, rm⟩ := K
  intro ok H locs ls hW hS hl
  exact W.lcmp ok.1 ok.2.1 hd (h ok H locs ls hW hS hl)
theorem aw_ineg {K : KT} {M : MT} {T : TT} {pc : Nat} {L : List (Option Value)} {st : List Value} {n : Nat} {R : Rg} {σ : Sg} {x : Int32} (hd : decode M.2.1 pc = .ok (.ineg, 1)) (h : AW K M T (pc + 1) L (.int (-x) :: st) n R σ) : AW K M T pc L (.int x :: st) n R σ := by
  obtain ⟨⟨p, l, e, s, m⟩, ⟨args, below, meth, c⟩, D, g, ext, base, n0, rm⟩ := K
  intro ok H locs ls hW hS hl
  exact lv_ineg ok.1 ok.2.1 hd (h ok H locs ls hW hS hl)
theorem aw_i2l {K : KT} {M : MT} {T : TT} {pc : Nat} {L : List (Option Value)} {st : List Value} {n : Nat} {R : Rg} {σ : Sg} {x : Int32} (hd : decode M.2.1 pc = .ok (.i2l, 1)) (h : AW K M T (pc + 1) L (.long x.toInt64 :: st) n R σ) : AW K M T pc L (.int x :: st) n R σ := by
  obtain ⟨⟨p, l, e, s, m⟩, ⟨args, below, meth, c⟩, D, g, ext, base, n0, rm⟩ := K
  intro ok H locs ls hW hS hl
  exact lv_i2l ok.1 ok.2.1 hd rfl (h ok H locs ls hW hS hl)
theorem aw_l2i {K : KT} {M : MT} {T : TT} {pc : Nat} {L : List (Option Value)} {st : List Value} {n : Nat} {R : Rg} {σ : Sg} {x : Int64} (hd : decode M.2.1 pc = .ok (.l2i, 1)) (h : AW K M T (pc + 1) L (.int x.toInt32 :: st) n R σ) : AW K M T pc L (.long x :: st) n R σ := by
  obtain ⟨⟨p, l, e, s, m⟩, ⟨args, below, meth, c⟩, D, g, ext, base, n0, rm⟩ := K
  intro ok H locs ls hW hS hl
  exact lv_l2i ok.1 ok.2.1 hd rfl (h ok H locs ls hW hS hl)
theorem aw_null {K : KT} {M : MT} {T : TT} {pc : Nat} {L : List (Option Value)} {st : List Value} {n : Nat} {R : Rg} {σ : Sg}  (hd : decode M.2.1 pc = .ok (.aconst_null, 1)) (h : AW K M T (pc + 1) L (.null :: st) n R σ) : AW K M T pc L (st) n R σ := by
  obtain ⟨⟨p, l, e, s, m⟩, ⟨args, below, meth, c⟩, D, g, ext, base, n0, rm⟩ := K
  intro ok H locs ls hW hS hl
  exact lv_null ok.1 ok.2.1 hd (h ok H locs ls hW hS hl)
theorem aw_dup {K : KT} {M : MT} {T : TT} {pc : Nat} {L : List (Option Value)} {st : List Value} {n : Nat} {R : Rg} {σ : Sg} {v : Value} (hv : v.category = 1) (hd : decode M.2.1 pc = .ok (.dup, 1)) (h : AW K M T (pc + 1) L (v :: v :: st) n R σ) : AW K M T pc L (v :: st) n R σ := by
  obtain ⟨⟨p, l, e, s, m⟩, ⟨args, below, meth, c⟩, D, g, ext, base, n0, rm⟩ := K
  intro ok H locs ls hW hS hl
  exact lv_dup ok.1 ok.2.1 hd (by rw [cv_cat]; exact hv) (h ok H locs ls hW hS hl)
theorem aw_pop {K : KT} {M : MT} {T : TT} {pc : Nat} {L : List (Option Value)} {st : List Value} {n : Nat} {R : Rg} {σ : Sg} {v : Value} (hv : v.category = 1) (hd : decode M.2.1 pc = .ok (.pop, 1)) (h : AW K M T (pc + 1) L (st) n R σ) : AW K M T pc L (v :: st) n R σ := by
  obtain ⟨⟨p, l, e, s, m⟩, ⟨args, below, meth, c⟩, D, g, ext, base, n0, rm⟩ := K
  intro ok H locs ls hW hS hl
  exact lv_pop ok.1 ok.2.1 hd (by rw [cv_cat]; exact hv) (h ok H locs ls hW hS hl)
theorem aw_dup2 {K : KT} {M : MT} {T : TT} {pc : Nat} {L : List (Option Value)} {st : List Value} {n : Nat} {R : Rg} {σ : Sg} {v w : Value} (hv : v.category = 1) (hw : w.category = 1) (hd : decode M.2.1 pc = .ok (.dup2, 1)) (h : AW K M T (pc + 1) L (v :: w :: v :: w :: st) n R σ) : AW K M T pc L (v :: w :: st) n R σ := by
  obtain ⟨⟨p, l, e, s, m⟩, ⟨args, below, meth, c⟩, D, g, ext, base, n0, rm⟩ := K
  intro ok H locs ls hW hS hl
  exact lv_dup2_11 ok.1 ok.2.1 hd (by rw [cv_cat]; exact hv) (by rw [cv_cat]; exact hw) (h ok H locs ls hW hS hl)
theorem aw_dup2L {K : KT} {M : MT} {T : TT} {pc : Nat} {L : List (Option Value)} {st : List Value} {n : Nat} {R : Rg} {σ : Sg} {v : Value} (hv : v.category = 2) (hd : decode M.2.1 pc = .ok (.dup2, 1)) (h : AW K M T (pc + 1) L (v :: v :: st) n R σ) : AW K M T pc L (v :: st) n R σ := by
  obtain ⟨⟨p, l, e, s, m⟩, ⟨args, below, meth, c⟩, D, g, ext, base, n0, rm⟩ := K
  intro ok H locs ls hW hS hl
  exact lv_dup2_2 ok.1 ok.2.1 hd (by rw [cv_cat]; exact hv) (h ok H locs ls hW hS hl)
theorem aw_goto {K : KT} {M : MT} {T : TT} {pc : Nat} {L : List (Option Value)} {st : List Value} {n : Nat} {R : Rg} {σ : Sg} {off : Int} {tgt : Nat} (hd : decode M.2.1 pc = .ok (.goto off, 3)) (ht : (pc : Int) + off = (tgt : Int)) (h : AW K M T tgt L st n R σ) : AW K M T pc L st n R σ := by
  obtain ⟨⟨p, l, e, s, m⟩, ⟨args, below, meth, c⟩, D, g, ext, base, n0, rm⟩ := K
  intro ok H locs ls hW hS hl
  exact lv_goto ok.1 ok.2.1 hd ht (h ok H locs ls hW hS hl)
theorem aw_if_eq {K : KT} {M : MT} {T : TT} {pc : Nat} {L : List (Option Value)} {st : List Value} {n : Nat} {R : Rg} {σ : Sg} {x : Int32} {off : Int} {tgt : Nat} (hd : decode M.2.1 pc = .ok (.ifCond .eq off, 3)) (ht : (pc : Int) + off = (tgt : Int)) (h1 : x = 0 → AW K M T tgt L st n R σ) (h2 : ¬ x = 0 → AW K M T (pc + 3) L st n R σ) : AW K M T pc L (.int x :: st) n R σ := by
  obtain ⟨⟨p, l, e, s, m⟩, ⟨args, below, meth, c⟩, D, g, ext, base, n0, rm⟩ := K
  intro ok H locs ls hW hS hl
  exact lv_if_eq ok.1 ok.2.1 hd ht (fun z => h1 z ok H locs ls hW hS hl) (fun z => h2 z ok H locs ls hW hS hl)
theorem aw_icmp_eq {K : KT} {M : MT} {T : TT} {pc : Nat} {L : List (Option Value)} {st : List Value} {n : Nat} {R : Rg} {σ : Sg} {x y : Int32} {off : Int} {tgt : Nat} (hd : decode M.2.1 pc = .ok (.if_icmp .eq off, 3)) (ht : (pc : Int) + off = (tgt : Int)) (h1 : x = y → AW K M T tgt L st n R σ) (h2 : ¬ x = y → AW K M T (pc + 3) L st n R σ) : AW K M T pc L (.int y :: .int x :: st) n R σ := by
  obtain ⟨⟨p, l, e, s, m⟩, ⟨args, below, meth, c⟩, D, g, ext, base, n0, rm⟩ := K
  intro ok H locs ls hW hS hl
  exact lv_icmp_eq ok.1 ok.2.1 hd ht (fun z => h1 z ok H locs ls hW hS hl) (fun z => h2 z ok H locs ls hW hS hl)
theorem aw_if_ne {K : KT} {M : MT} {T : TT} {pc : Nat} {L : List (Option Value)} {st : List Value} {n : Nat} {R : Rg} {σ : Sg} {x : Int32} {off : Int} {tgt : Nat} (hd : decode M.2.1 pc = .ok (.ifCond .ne off, 3)) (ht : (pc : Int) + off = (tgt : Int)) (h1 : ¬ x = 0 → AW K M T tgt L st n R σ) (h2 : x = 0 → AW K M T (pc + 3) L st n R σ) : AW K M T pc L (.int x :: st) n R σ := by
  obtain ⟨⟨p, l, e, s, m⟩, ⟨args, below, meth, c⟩, D, g, ext, base, n0, rm⟩ := K
  intro ok H locs ls hW hS hl
  exact lv_if_ne ok.1 ok.2.1 hd ht (fun z => h1 z ok H locs ls hW hS hl) (fun z => h2 z ok H locs ls hW hS hl)
theorem aw_icmp_ne {K : KT} {M : MT} {T : TT} {pc : Nat} {L : List (Option Value)} {st : List Value} {n : Nat} {R : Rg} {σ : Sg} {x y : Int32} {off : Int} {tgt : Nat} (hd : decode M.2.1 pc = .ok (.if_icmp .ne off, 3)) (ht : (pc : Int) + off = (tgt : Int)) (h1 : ¬ x = y → AW K M T tgt L st n R σ) (h2 : x = y → AW K M T (pc + 3) L st n R σ) : AW K M T pc L (.int y :: .int x :: st) n R σ := by
  obtain ⟨⟨p, l, e, s, m⟩, ⟨args, below, meth, c⟩, D, g, ext, base, n0, rm⟩ := K
  intro ok H locs ls hW hS hl
  exact lv_icmp_ne ok.1 ok.2.1 hd ht (fun z => h1 z ok H locs ls hW hS hl) (fun z => h2 z ok H locs ls hW hS hl)
theorem aw_if_lt {K : KT} {M : MT} {T : TT} {pc : Nat} {L : List (Option Value)} {st : List Value} {n : Nat} {R : Rg} {σ : Sg} {x : Int32} {off : Int} {tgt : Nat} (hd : decode M.2.1 pc = .ok (.ifCond .lt off, 3)) (ht : (pc : Int) + off = (tgt : Int)) (h1 : x < 0 → AW K M T tgt L st n R σ) (h2 : ¬ x < 0 → AW K M T (pc + 3) L st n R σ) : AW K M T pc L (.int x :: st) n R σ := by
  obtain ⟨⟨p, l, e, s, m⟩, ⟨args, below, meth, c⟩, D, g, ext, base, n0, rm⟩ := K
  intro ok H locs ls hW hS hl
  exact lv_if_lt ok.1 ok.2.1 hd ht (fun z => h1 z ok H locs ls hW hS hl) (fun z => h2 z ok H locs ls hW hS hl)
theorem aw_icmp_lt {K : KT} {M : MT} {T : TT} {pc : Nat} {L : List (Option Value)} {st : List Value} {n : Nat} {R : Rg} {σ : Sg} {x y : Int32} {off : Int} {tgt : Nat} (hd : decode M.2.1 pc = .ok (.if_icmp .lt off, 3)) (ht : (pc : Int) + off = (tgt : Int)) (h1 : x < y → AW K M T tgt L st n R σ) (h2 : ¬ x < y → AW K M T (pc + 3) L st n R σ) : AW K M T pc L (.int y :: .int x :: st) n R σ := by
  obtain ⟨⟨p, l, e, s, m⟩, ⟨args, below, meth, c⟩, D, g, ext, base, n0, rm⟩ := K
  intro ok H locs ls hW hS hl
  exact lv_icmp_lt ok.1 ok.2.1 hd ht (fun z => h1 z ok H locs ls hW hS hl) (fun z => h2 z ok H locs ls hW hS hl)
theorem aw_if_ge {K : KT} {M : MT} {T : TT} {pc : Nat} {L : List (Option Value)} {st : List Value} {n : Nat} {R : Rg} {σ : Sg} {x : Int32} {off : Int} {tgt : Nat} (hd : decode M.2.1 pc = .ok (.ifCond .ge off, 3)) (ht : (pc : Int) + off = (tgt : Int)) (h1 : 0 ≤ x → AW K M T tgt L st n R σ) (h2 : ¬ 0 ≤ x → AW K M T (pc + 3) L st n R σ) : AW K M T pc L (.int x :: st) n R σ := by
  obtain ⟨⟨p, l, e, s, m⟩, ⟨args, below, meth, c⟩, D, g, ext, base, n0, rm⟩ := K
  intro ok H locs ls hW hS hl
  exact lv_if_ge ok.1 ok.2.1 hd ht (fun z => h1 z ok H locs ls hW hS hl) (fun z => h2 z ok H locs ls hW hS hl)
theorem aw_icmp_ge {K : KT} {M : MT} {T : TT} {pc : Nat} {L : List (Option Value)} {st : List Value} {n : Nat} {R : Rg} {σ : Sg} {x y : Int32} {off : Int} {tgt : Nat} (hd : decode M.2.1 pc = .ok (.if_icmp .ge off, 3)) (ht : (pc : Int) + off = (tgt : Int)) (h1 : y ≤ x → AW K M T tgt L st n R σ) (h2 : ¬ y ≤ x → AW K M T (pc + 3) L st n R σ) : AW K M T pc L (.int y :: .int x :: st) n R σ := by
  obtain ⟨⟨p, l, e, s, m⟩, ⟨args, below, meth, c⟩, D, g, ext, base, n0, rm⟩ := K
  intro ok H locs ls hW hS hl
  exact lv_icmp_ge ok.1 ok.2.1 hd ht (fun z => h1 z ok H locs ls hW hS hl) (fun z => h2 z ok H locs ls hW hS hl)
theorem aw_if_gt {K : KT} {M : MT} {T : TT} {pc : Nat} {L : List (Option Value)} {st : List Value} {n : Nat} {R : Rg} {σ : Sg} {x : Int32} {off : Int} {tgt : Nat} (hd : decode M.2.1 pc = .ok (.ifCond .gt off, 3)) (ht : (pc : Int) + off = (tgt : Int)) (h1 : 0 < x → AW K M T tgt L st n R σ) (h2 : ¬ 0 < x → AW K M T (pc + 3) L st n R σ) : AW K M T pc L (.int x :: st) n R σ := by
  obtain ⟨⟨p, l, e, s, m⟩, ⟨args, below, meth, c⟩, D, g, ext, base, n0, rm⟩ := K
  intro ok H locs ls hW hS hl
  exact lv_if_gt ok.1 ok.2.1 hd ht (fun z => h1 z ok H locs ls hW hS hl) (fun z => h2 z ok H locs ls hW hS hl)
theorem aw_icmp_gt {K : KT} {M : MT} {T : TT} {pc : Nat} {L : List (Option Value)} {st : List Value} {n : Nat} {R : Rg} {σ : Sg} {x y : Int32} {off : Int} {tgt : Nat} (hd : decode M.2.1 pc = .ok (.if_icmp .gt off, 3)) (ht : (pc : Int) + off = (tgt : Int)) (h1 : y < x → AW K M T tgt L st n R σ) (h2 : ¬ y < x → AW K M T (pc + 3) L st n R σ) : AW K M T pc L (.int y :: .int x :: st) n R σ := by
  obtain ⟨⟨p, l, e, s, m⟩, ⟨args, below, meth, c⟩, D, g, ext, base, n0, rm⟩ := K
  intro ok H locs ls hW hS hl
  exact lv_icmp_gt ok.1 ok.2.1 hd ht (fun z => h1 z ok H locs ls hW hS hl) (fun z => h2 z ok H locs ls hW hS hl)
theorem aw_if_le {K : KT} {M : MT} {T : TT} {pc : Nat} {L : List (Option Value)} {st : List Value} {n : Nat} {R : Rg} {σ : Sg} {x : Int32} {off : Int} {tgt : Nat} (hd : decode M.2.1 pc = .ok (.ifCond .le off, 3)) (ht : (pc : Int) + off = (tgt : Int)) (h1 : x ≤ 0 → AW K M T tgt L st n R σ) (h2 : ¬ x ≤ 0 → AW K M T (pc + 3) L st n R σ) : AW K M T pc L (.int x :: st) n R σ := by
  obtain ⟨⟨p, l, e, s, m⟩, ⟨args, below, meth, c⟩, D, g, ext, base, n0, rm⟩ := K
  intro ok H locs ls hW hS hl
  exact lv_if_le ok.1 ok.2.1 hd ht (fun z => h1 z ok H locs ls hW hS hl) (fun z => h2 z ok H locs ls hW hS hl)
theorem aw_icmp_le {K : KT} {M : MT} {T : TT} {pc : Nat} {L : List (Option Value)} {st : List Value} {n : Nat} {R : Rg} {σ : Sg} {x y : Int32} {off : Int} {tgt : Nat} (hd : decode M.2.1 pc = .ok (.if_icmp .le off, 3)) (ht : (pc : Int) + off = (tgt : Int)) (h1 : x ≤ y → AW K M T tgt L st n R σ) (h2 : ¬ x ≤ y → AW K M T (pc + 3) L st n R σ) : AW K M T pc L (.int y :: .int x :: st) n R σ := by
  obtain ⟨⟨p, l, e, s, m⟩, ⟨args, below, meth, c⟩, D, g, ext, base, n0, rm⟩ := K
  intro ok H locs ls hW hS hl
  exact lv_icmp_le ok.1 ok.2.1 hd ht (fun z => h1 z ok H locs ls hW hS hl) (fun z => h2 z ok H locs ls hW hS hl)
theorem lvA_get {base : Nat × (Nat → Nat)} {L : List (Option Value)} {ls : Array Slot} {nL i : Nat} {v : Value} (hl : lv_has ls nL (lvA base 0 L)) (h : L[i]? = some (some v)) : ls[i]? = some (.val (cv base v)) :=
  hl.2.2 (i, cv base v) (lvA_mem.mpr ⟨i, v, h, by simp⟩)
def okc (v : Option Value) : Bool := match v with
  | some (.long _) => false
  | some (.double _) => false
  | _ => true
theorem okc_cat {v : Value} (h : okc (some v) = true) : v.category = 1 := by cases v <;> first | rfl | cases h
theorem lvA_set1 {base : Nat × (Nat → Nat)} {L : List (Option Value)} {ls : Array Slot} {nL i : Nat} {v : Value} (hp : ∀ w, 0 < i → L[i - 1]? = some w → okc w = true) (hi : i < L.length) (hl : lv_has ls nL ((i, cv base v) :: (lvA base 0 L).filter (fun q => !(q.1 == i) && !(q.1 + 1 == i && q.2.category == 2)))) : lv_has ls nL (lvA base 0 (L.set i (some v))) := by
  refine ⟨hl.1, hl.2.1, fun q hq => hl.2.2 q ?_⟩
  obtain ⟨j, w, h1, rfl⟩ := lvA_mem.mp hq
  by_cases hj : j = i
  · subst hj
    rw [List.getElem?_set_self hi] at h1
    cases h1
    simp
  · rw [List.getElem?_set_ne (Ne.symm hj)] at h1
    refine List.mem_cons_of_mem _ (List.mem_filter.mpr ⟨lvA_mem.mpr ⟨j, w, h1, rfl⟩, ?_⟩)
    by_cases h2 : j + 1 = i
    · have h3 := okc_cat (hp (some w) (by omega) (by rw [← h1]; congr 1; omega))
      simp [hj, cv_cat, h3]
    · simp [hj, h2]
theorem lvA_set2 {base : Nat × (Nat → Nat)} {L : List (Option Value)} {ls : Array Slot} {nL i : Nat} {v : Value} (hp : ∀ w, 0 < i → L[i - 1]? = some w → okc w = true) (hi : i + 1 < L.length) (hl : lv_has ls nL ((i, cv base v) :: (lvA base 0 L).filter (fun q => !(q.1 == i) && (!(q.1 == i + 1) && !(q.1 + 1 == i && q.2.category == 2))))) : lv_has ls nL (lvA base 0 ((L.set i (some v)).set (i + 1) none)) := by
  refine ⟨hl.1, hl.2.1, fun q hq => hl.2.2 q ?_⟩
  obtain ⟨j, w, h1, rfl⟩ := lvA_mem.mp hq
  by_cases hj1 : j = i + 1
  · subst hj1
    rw [List.getElem?_set_self (by simpa using hi)] at h1
    cases h1
  rw [List.getElem?_set_ne (Ne.symm hj1)] at h1
  by_cases hj : j = i
  · subst hj
    rw [List.getElem?_set_self (by omega)] at h1
    cases h1
    simp
  · rw [List.getElem?_set_ne (Ne.symm hj)] at h1
    refine List.mem_cons_of_mem _ (List.mem_filter.mpr ⟨lvA_mem.mpr ⟨j, w, h1, rfl⟩, ?_⟩)
    by_cases h2 : j + 1 = i
    · have h3 := okc_cat (hp (some w) (by omega) (by rw [← h1]; congr 1; omega))
      simp [hj, hj1, cv_cat, h3]
    · simp [hj, hj1, h2]
theorem lvA_drop {base : Nat × (Nat → Nat)} {L L' : List (Option Value)} {ls : Array Slot} {nL : Nat} (h : ∀ (i : Nat) (w : Value), L'[i]? = some (some w) → L[i]? = some (some w)) (hl : lv_has ls nL (lvA base 0 L)) : lv_has ls nL (lvA base 0 L') := by
  refine ⟨hl.1, hl.2.1, fun q hq => hl.2.2 q ?_⟩
  obtain ⟨j, w, h1, rfl⟩ := lvA_mem.mp hq
  exact lvA_mem.mpr ⟨j, w, h j w h1, rfl⟩
theorem aw_iload_0 {K : KT} {M : MT} {T : TT} {pc : Nat} {st : List Value} {n : Nat} {R : Rg} {σ : Sg} {r : List (Option Value)} {x : Int32} (hd : decode M.2.1 pc = .ok (.iload_n 0, 1)) (h : AW K M T (pc + 1) (some (.int x) :: r) (.int x :: st) n R σ) : AW K M T pc (some (.int x) :: r) st n R σ := by
  obtain ⟨⟨p, l, e, s, m⟩, ⟨args, below, meth, c⟩, D, g, ext, base, n0, rm⟩ := K
  intro ok H locs ls hW hS hl
  exact lv_iload_n ok.1 ok.2.1 hd rfl (lvA_get (i := 0) (v := .int x) hl rfl) (h ok H locs ls hW hS hl)
theorem aw_iload_1 {K : KT} {M : MT} {T : TT} {pc : Nat} {st : List Value} {n : Nat} {R : Rg} {σ : Sg} {a0 : Option Value} {r : List (Option Value)} {x : Int32} (hd : decode M.2.1 pc = .ok (.iload_n 1, 1)) (h : AW K M T (pc + 1) (a0 :: some (.int x) :: r) (.int x :: st) n R σ) : AW K M T pc (a0 :: some (.int x) :: r) st n R σ := by
  obtain ⟨⟨p, l, e, s, m⟩, ⟨args, below, meth, c⟩, D, g, ext, base, n0, rm⟩ := K
  intro ok H locs ls hW hS hl
  exact lv_iload_n ok.1 ok.2.1 hd rfl (lvA_get (i := 1) (v := .int x) hl rfl) (h ok H locs ls hW hS hl)
theorem aw_iload_2 {K : KT} {M : MT} {T : TT} {pc : Nat} {st : List Value} {n : Nat} {R : Rg} {σ : Sg} {a0 a1 : Option Value} {r : List (Option Value)} {x : Int32} (hd : decode M.2.1 pc = .ok (.iload_n 2, 1)) (h : AW K M T (pc + 1) (a0 :: a1 :: some (.int x) :: r) (.int x :: st) n R σ) : AW K M T pc (a0 :: a1 :: some (.int x) :: r) st n R σ := by
  obtain ⟨⟨p, l, e, s, m⟩, ⟨args, below, meth, c⟩, D, g, ext, base, n0, rm⟩ := K
  intro ok H locs ls hW hS hl
  exact lv_iload_n ok.1 ok.2.1 hd rfl (lvA_get (i := 2) (v := .int x) hl rfl) (h ok H locs ls hW hS hl)
theorem aw_iload_3 {K : KT} {M : MT} {T : TT} {pc : Nat} {st : List Value} {n : Nat} {R : Rg} {σ : Sg} {a0 a1 a2 : Option Value} {r : List (Option Value)} {x : Int32} (hd : decode M.2.1 pc = .ok (.iload_n 3, 1)) (h : AW K M T (pc + 1) (a0 :: a1 :: a2 :: some (.int x) :: r) (.int x :: st) n R σ) : AW K M T pc (a0 :: a1 :: a2 :: some (.int x) :: r) st n R σ := by
  obtain ⟨⟨p, l, e, s, m⟩, ⟨args, below, meth, c⟩, D, g, ext, base, n0, rm⟩ := K
  intro ok H locs ls hW hS hl
  exact lv_iload_n ok.1 ok.2.1 hd rfl (lvA_get (i := 3) (v := .int x) hl rfl) (h ok H locs ls hW hS hl)
theorem aw_iload_4 {K : KT} {M : MT} {T : TT} {pc : Nat} {st : List Value} {n : Nat} {R : Rg} {σ : Sg} {a0 a1 a2 a3 : Option Value} {r : List (Option Value)} {x : Int32} (hd : decode M.2.1 pc = .ok (.iload 4, 2)) (h : AW K M T (pc + 2) (a0 :: a1 :: a2 :: a3 :: some (.int x) :: r) (.int x :: st) n R σ) : AW K M T pc (a0 :: a1 :: a2 :: a3 :: some (.int x) :: r) st n R σ := by
  obtain ⟨⟨p, l, e, s, m⟩, ⟨args, below, meth, c⟩, D, g, ext, base, n0, rm⟩ := K
  intro ok H locs ls hW hS hl
  exact lv_iload ok.1 ok.2.1 hd (lvA_get (i := 4) (v := .int x) hl rfl) (h ok H locs ls hW hS hl)
theorem aw_iload_5 {K : KT} {M : MT} {T : TT} {pc : Nat} {st : List Value} {n : Nat} {R : Rg} {σ : Sg} {a0 a1 a2 a3 a4 : Option Value} {r : List (Option Value)} {x : Int32} (hd : decode M.2.1 pc = .ok (.iload 5, 2)) (h : AW K M T (pc + 2) (a0 :: a1 :: a2 :: a3 :: a4 :: some (.int x) :: r) (.int x :: st) n R σ) : AW K M T pc (a0 :: a1 :: a2 :: a3 :: a4 :: some (.int x) :: r) st n R σ := by
  obtain ⟨⟨p, l, e, s, m⟩, ⟨args, below, meth, c⟩, D, g, ext, base, n0, rm⟩ := K
  intro ok H locs ls hW hS hl
  exact lv_iload ok.1 ok.2.1 hd (lvA_get (i := 5) (v := .int x) hl rfl) (h ok H locs ls hW hS hl)
theorem aw_iload_6 {K : KT} {M : MT} {T : TT} {pc : Nat} {st : List Value} {n : Nat} {R : Rg} {σ : Sg} {a0 a1 a2 a3 a4 a5 : Option Value} {r : List (Option Value)} {x : Int32} (hd : decode M.2.1 pc = .ok (.iload 6, 2)) (h : AW K M T (pc + 2) (a0 :: a1 :: a2 :: a3 :: a4 :: a5 :: some (.int x) :: r) (.int x :: st) n R σ) : AW K M T pc (a0 :: a1 :: a2 :: a3 :: a4 :: a5 :: some (.int x) :: r) st n R σ := by
  obtain ⟨⟨p, l, e, s, m⟩, ⟨args, below, meth, c⟩, D, g, ext, base, n0, rm⟩ := K
  intro ok H locs ls hW hS hl
  exact lv_iload ok.1 ok.2.1 hd (lvA_get (i := 6) (v := .int x) hl rfl) (h ok H locs ls hW hS hl)
theorem aw_iload_7 {K : KT} {M : MT} {T : TT} {pc : Nat} {st : List Value} {n : Nat} {R : Rg} {σ : Sg} {a0 a1 a2 a3 a4 a5 a6 : Option Value} {r : List (Option Value)} {x : Int32} (hd : decode M.2.1 pc = .ok (.iload 7, 2)) (h : AW K M T (pc + 2) (a0 :: a1 :: a2 :: a3 :: a4 :: a5 :: a6 :: some (.int x) :: r) (.int x :: st) n R σ) : AW K M T pc (a0 :: a1 :: a2 :: a3 :: a4 :: a5 :: a6 :: some (.int x) :: r) st n R σ := by
  obtain ⟨⟨p, l, e, s, m⟩, ⟨args, below, meth, c⟩, D, g, ext, base, n0, rm⟩ := K
  intro ok H locs ls hW hS hl
  exact lv_iload ok.1 ok.2.1 hd (lvA_get (i := 7) (v := .int x) hl rfl) (h ok H locs ls hW hS hl)
theorem aw_iload_8 {K : KT} {M : MT} {T : TT} {pc : Nat} {st : List Value} {n : Nat} {R : Rg} {σ : Sg} {a0 a1 a2 a3 a4 a5 a6 a7 : Option Value} {r : List (Option Value)} {x : Int32} (hd : decode M.2.1 pc = .ok (.iload 8, 2)) (h : AW K M T (pc + 2) (a0 :: a1 :: a2 :: a3 :: a4 :: a5 :: a6 :: a7 :: some (.int x) :: r) (.int x :: st) n R σ) : AW K M T pc (a0 :: a1 :: a2 :: a3 :: a4 :: a5 :: a6 :: a7 :: some (.int x) :: r) st n R σ := by
  obtain ⟨⟨p, l, e, s, m⟩, ⟨args, below, meth, c⟩, D, g, ext, base, n0, rm⟩ := K
  intro ok H locs ls hW hS hl
  exact lv_iload ok.1 ok.2.1 hd (lvA_get (i := 8) (v := .int x) hl rfl) (h ok H locs ls hW hS hl)
theorem aw_iload_9 {K : KT} {M : MT} {T : TT} {pc : Nat} {st : List Value} {n : Nat} {R : Rg} {σ : Sg} {a0 a1 a2 a3 a4 a5 a6 a7 a8 : Option Value} {r : List (Option Value)} {x : Int32} (hd : decode M.2.1 pc = .ok (.iload 9, 2)) (h : AW K M T (pc + 2) (a0 :: a1 :: a2 :: a3 :: a4 :: a5 :: a6 :: a7 :: a8 :: some (.int x) :: r) (.int x :: st) n R σ) : AW K M T pc (a0 :: a1 :: a2 :: a3 :: a4 :: a5 :: a6 :: a7 :: a8 :: some (.int x) :: r) st n R σ := by
  obtain ⟨⟨p, l, e, s, m⟩, ⟨args, below, meth, c⟩, D, g, ext, base, n0, rm⟩ := K
  intro ok H locs ls hW hS hl
  exact lv_iload ok.1 ok.2.1 hd (lvA_get (i := 9) (v := .int x) hl rfl) (h ok H locs ls hW hS hl)
theorem aw_iload_10 {K : KT} {M : MT} {T : TT} {pc : Nat} {st : List Value} {n : Nat} {R : Rg} {σ : Sg} {a0 a1 a2 a3 a4 a5 a6 a7 a8 a9 : Option Value} {r : List (Option Value)} {x : Int32} (hd : decode M.2.1 pc = .ok (.iload 10, 2)) (h : AW K M T (pc + 2) (a0 :: a1 :: a2 :: a3 :: a4 :: a5 :: a6 :: a7 :: a8 :: a9 :: some (.int x) :: r) (.int x :: st) n R σ) : AW K M T pc (a0 :: a1 :: a2 :: a3 :: a4 :: a5 :: a6 :: a7 :: a8 :: a9 :: some (.int x) :: r) st n R σ := by
  obtain ⟨⟨p, l, e, s, m⟩, ⟨args, below, meth, c⟩, D, g, ext, base, n0, rm⟩ := K
  intro ok H locs ls hW hS hl
  exact lv_iload ok.1 ok.2.1 hd (lvA_get (i := 10) (v := .int x) hl rfl) (h ok H locs ls hW hS hl)
theorem aw_iload_11 {K : KT} {M : MT} {T : TT} {pc : Nat} {st : List Value} {n : Nat} {R : Rg} {σ : Sg} {a0 a1 a2 a3 a4 a5 a6 a7 a8 a9 a10 : Option Value} {r : List (Option Value)} {x : Int32} (hd : decode M.2.1 pc = .ok (.iload 11, 2)) (h : AW K M T (pc + 2) (a0 :: a1 :: a2 :: a3 :: a4 :: a5 :: a6 :: a7 :: a8 :: a9 :: a10 :: some (.int x) :: r) (.int x :: st) n R σ) : AW K M T pc (a0 :: a1 :: a2 :: a3 :: a4 :: a5 :: a6 :: a7 :: a8 :: a9 :: a10 :: some (.int x) :: r) st n R σ := by
  obtain ⟨⟨p, l, e, s, m⟩, ⟨args, below, meth, c⟩, D, g, ext, base, n0, rm⟩ := K
  intro ok H locs ls hW hS hl
  exact lv_iload ok.1 ok.2.1 hd (lvA_get (i := 11) (v := .int x) hl rfl) (h ok H locs ls hW hS hl)
theorem aw_iload_12 {K : KT} {M : MT} {T : TT} {pc : Nat} {st : List Value} {n : Nat} {R : Rg} {σ : Sg} {a0 a1 a2 a3 a4 a5 a6 a7 a8 a9 a10 a11 : Option Value} {r : List (Option Value)} {x : Int32} (hd : decode M.2.1 pc = .ok (.iload 12, 2)) (h : AW K M T (pc + 2) (a0 :: a1 :: a2 :: a3 :: a4 :: a5 :: a6 :: a7 :: a8 :: a9 :: a10 :: a11 :: some (.int x) :: r) (.int x :: st) n R σ) : AW K M T pc (a0 :: a1 :: a2 :: a3 :: a4 :: a5 :: a6 :: a7 :: a8 :: a9 :: a10 :: a11 :: some (.int x) :: r) st n R σ := by
  obtain ⟨⟨p, l, e, s, m⟩, ⟨args, below, meth, c⟩, D, g, ext, base, n0, rm⟩ := K
  intro ok H locs ls hW hS hl
  exact lv_iload ok.1 ok.2.1 hd (lvA_get (i := 12) (v := .int x) hl rfl) (h ok H locs ls hW hS hl)
theorem aw_iload_13 {K : KT} {M : MT} {T : TT} {pc : Nat} {st : List Value} {n : Nat} {R : Rg} {σ : Sg} {a0 a1 a2 a3 a4 a5 a6 a7 a8 a9 a10 a11 a12 : Option Value} {r : List (Option Value)} {x : Int32} (hd : decode M.2.1 pc = .ok (.iload 13, 2)) (h : AW K M T (pc + 2) (a0 :: a1 :: a2 :: a3 :: a4 :: a5 :: a6 :: a7 :: a8 :: a9 :: a10 :: a11 :: a12 :: some (.int x) :: r) (.int x :: st) n R σ) : AW K M T pc (a0 :: a1 :: a2 :: a3 :: a4 :: a5 :: a6 :: a7 :: a8 :: a9 :: a10 :: a11 :: a12 :: some (.int x) :: r) st n R σ := by
  obtain ⟨⟨p, l, e, s, m⟩, ⟨args, below, meth, c⟩, D, g, ext, base, n0, rm⟩ := K
  intro ok H locs ls hW hS hl
  exact lv_iload ok.1 ok.2.1 hd (lvA_get (i := 13) (v := .int x) hl rfl) (h ok H locs ls hW hS hl)
theorem aw_iload_14 {K : KT} {M : MT} {T : TT} {pc : Nat} {st : List Value} {n : Nat} {R : Rg} {σ : Sg} {a0 a1 a2 a3 a4 a5 a6 a7 a8 a9 a10 a11 a12 a13 : Option Value} {r : List (Option Value)} {x : Int32} (hd : decode M.2.1 pc = .ok (.iload 14, 2)) (h : AW K M T (pc + 2) (a0 :: a1 :: a2 :: a3 :: a4 :: a5 :: a6 :: a7 :: a8 :: a9 :: a10 :: a11 :: a12 :: a13 :: some (.int x) :: r) (.int x :: st) n R σ) : AW K M T pc (a0 :: a1 :: a2 :: a3 :: a4 :: a5 :: a6 :: a7 :: a8 :: a9 :: a10 :: a11 :: a12 :: a13 :: some (.int x) :: r) st n R σ := by
  obtain ⟨⟨p, l, e, s, m⟩, ⟨args, below, meth, c⟩, D, g, ext, base, n0, rm⟩ := K
  intro ok H locs ls hW hS hl
  exact lv_iload ok.1 ok.2.1 hd (lvA_get (i := 14) (v := .int x) hl rfl) (h ok H locs ls hW hS hl)
theorem aw_iload_15 {K : KT} {M : MT} {T : TT} {pc : Nat} {st : List Value} {n : Nat} {R : Rg} {σ : Sg} {a0 a1 a2 a3 a4 a5 a6 a7 a8 a9 a10 a11 a12 a13 a14 : Option Value} {r : List (Option Value)} {x : Int32} (hd : decode M.2.1 pc = .ok (.iload 15, 2)) (h : AW K M T (pc + 2) (a0 :: a1 :: a2 :: a3 :: a4 :: a5 :: a6 :: a7 :: a8 :: a9 :: a10 :: a11 :: a12 :: a13 :: a14 :: some (.int x) :: r) (.int x :: st) n R σ) : AW K M T pc (a0 :: a1 :: a2 :: a3 :: a4 :: a5 :: a6 :: a7 :: a8 :: a9 :: a10 :: a11 :: a12 :: a13 :: a14 :: some (.int x) :: r) st n R σ := by
  obtain ⟨⟨p, l, e, s, m⟩, ⟨args, below, meth, c⟩, D, g, ext, base, n0, rm⟩ := K
  intro ok H locs ls hW hS hl
  exact lv_iload ok.1 ok.2.1 hd (lvA_get (i := 15) (v := .int x) hl rfl) (h ok H locs ls hW hS hl)
theorem aw_iload_16 {K : KT} {M : MT} {T : TT} {pc : Nat} {st : List Value} {n : Nat} {R : Rg} {σ : Sg} {a0 a1 a2 a3 a4 a5 a6 a7 a8 a9 a10 a11 a12 a13 a14 a15 : Option Value} {r : List (Option Value)} {x : Int32} (hd : decode M.2.1 pc = .ok (.iload 16, 2)) (h : AW K M T (pc + 2) (a0 :: a1 :: a2 :: a3 :: a4 :: a5 :: a6 :: a7 :: a8 :: a9 :: a10 :: a11 :: a12 :: a13 :: a14 :: a15 :: some (.int x) :: r) (.int x :: st) n R σ) : AW K M T pc (a0 :: a1 :: a2 :: a3 :: a4 :: a5 :: a6 :: a7 :: a8 :: a9 :: a10 :: a11 :: a12 :: a13 :: a14 :: a15 :: some (.int x) :: r) st n R σ := by
  obtain ⟨⟨p, l, e, s, m⟩, ⟨args, below, meth, c⟩, D, g, ext, base, n0, rm⟩ := K
  intro ok H locs ls hW hS hl
  exact lv_iload ok.1 ok.2.1 hd (lvA_get (i := 16) (v := .int x) hl rfl) (h ok H locs ls hW hS hl)
theorem aw_iload_17 {K : KT} {M : MT} {T : TT} {pc : Nat} {st : List Value} {n : Nat} {R : Rg} {σ : Sg} {a0 a1 a2 a3 a4 a5 a6 a7 a8 a9 a10 a11 a12 a13 a14 a15 a16 : Option Value} {r : List (Option Value)} {x : Int32} (hd : decode M.2.1 pc = .ok (.iload 17, 2)) (h : AW K M T (pc + 2) (a0 :: a1 :: a2 :: a3 :: a4 :: a5 :: a6 :: a7 :: a8 :: a9 :: a10 :: a11 :: a12 :: a13 :: a14 :: a15 :: a16 :: some (.int x) :: r) (.int x :: st) n R σ) : AW K M T pc (a0 :: a1 :: a2 :: a3 :: a4 :: a5 :: a6 :: a7 :: a8 :: a9 :: a10 :: a11 :: a12 :: a13 :: a14 :: a15 :: a16 :: some (.int x) :: r) st n R σ := by
  obtain ⟨⟨p, l, e, s, m⟩, ⟨args, below, meth, c⟩, D, g, ext, base, n0, rm⟩ := K
  intro ok H locs ls hW hS hl
  exact lv_iload ok.1 ok.2.1 hd (lvA_get (i := 17) (v := .int x) hl rfl) (h ok H locs ls hW hS hl)
theorem aw_lload_0 {K : KT} {M : MT} {T : TT} {pc : Nat} {st : List Value} {n : Nat} {R : Rg} {σ : Sg} {r : List (Option Value)} {x : Int64} (hd : decode M.2.1 pc = .ok (.lload_n 0, 1)) (h : AW K M T (pc + 1) (some (.long x) :: r) (.long x :: st) n R σ) : AW K M T pc (some (.long x) :: r) st n R σ := by
  obtain ⟨⟨p, l, e, s, m⟩, ⟨args, below, meth, c⟩, D, g, ext, base, n0, rm⟩ := K
  intro ok H locs ls hW hS hl
  exact lv_lload_n ok.1 ok.2.1 hd rfl (lvA_get (i := 0) (v := .long x) hl rfl) (h ok H locs ls hW hS hl)
theorem aw_lload_1 {K : KT} {M : MT} {T : TT} {pc : Nat} {st : List Value} {n : Nat} {R : Rg} {σ : Sg} {a0 : Option Value} {r : List (Option Value)} {x : Int64} (hd : decode M.2.1 pc = .ok (.lload_n 1, 1)) (h : AW K M T (pc + 1) (a0 :: some (.long x) :: r) (.long x :: st) n R σ) : AW K M T pc (a0 :: some (.long x) :: r) st n R σ := by
  obtain ⟨⟨p, l, e, s, m⟩, ⟨args, below, meth, c⟩, D, g, ext, base, n0, rm⟩ := K
  intro ok H locs ls hW hS hl
  exact lv_lload_n ok.1 ok.2.1 hd rfl (lvA_get (i := 1) (v := .long x) hl rfl) (h ok H locs ls hW hS hl)
theorem aw_lload_2 {K : KT} {M : MT} {T : TT} {pc : Nat} {st : List Value} {n : Nat} {R : Rg} {σ : Sg} {a0 a1 : Option Value} {r : List (Option Value)} {x : Int64} (hd : decode M.2.1 pc = .ok (.lload_n 2, 1)) (h : AW K M T (pc + 1) (a0 :: a1 :: some (.long x) :: r) (.long x :: st) n R σ) : AW K M T pc (a0 :: a1 :: some (.long x) :: r) st n R σ := by
  obtain ⟨⟨p, l, e, s, m⟩, ⟨args, below, meth, c⟩, D, g, ext, base, n0, rm⟩ := K
  intro ok H locs ls hW hS hl
  exact lv_lload_n ok.1 ok.2.1 hd rfl (lvA_get (i := 2) (v := .long x) hl rfl) (h ok H locs ls hW hS hl)
theorem aw_lload_3 {K : KT} {M : MT} {T : TT} {pc : Nat} {st : List Value} {n : Nat} {R : Rg} {σ : Sg} {a0 a1 a2 : Option Value} {r : List (Option Value)} {x : Int64} (hd : decode M.2.1 pc = .ok (.lload_n 3, 1)) (h : AW K M T (pc + 1) (a0 :: a1 :: a2 :: some (.long x) :: r) (.long x :: st) n R σ) : AW K M T pc (a0 :: a1 :: a2 :: some (.long x) :: r) st n R σ := by
  obtain ⟨⟨p, l, e, s, m⟩, ⟨args, below, meth, c⟩, D, g, ext, base, n0, rm⟩ := K
  intro ok H locs ls hW hS hl
  exact lv_lload_n ok.1 ok.2.1 hd rfl (lvA_get (i := 3) (v := .long x) hl rfl) (h ok H locs ls hW hS hl)
theorem aw_lload_4 {K : KT} {M : MT} {T : TT} {pc : Nat} {st : List Value} {n : Nat} {R : Rg} {σ : Sg} {a0 a1 a2 a3 : Option Value} {r : List (Option Value)} {x : Int64} (hd : decode M.2.1 pc = .ok (.lload 4, 2)) (h : AW K M T (pc + 2) (a0 :: a1 :: a2 :: a3 :: some (.long x) :: r) (.long x :: st) n R σ) : AW K M T pc (a0 :: a1 :: a2 :: a3 :: some (.long x) :: r) st n R σ := by
  obtain ⟨⟨p, l, e, s, m⟩, ⟨args, below, meth, c⟩, D, g, ext, base, n0, rm⟩ := K
  intro ok H locs ls hW hS hl
  exact lv_lload ok.1 ok.2.1 hd (lvA_get (i := 4) (v := .long x) hl rfl) (h ok H locs ls hW hS hl)
theorem aw_lload_5 {K : KT} {M : MT} {T : TT} {pc : Nat} {st : List Value} {n : Nat} {R : Rg} {σ : Sg} {a0 a1 a2 a3 a4 : Option Value} {r : List (Option Value)} {x : Int64} (hd : decode M.2.1 pc = .ok (.lload 5, 2)) (h : AW K M T (pc + 2) (a0 :: a1 :: a2 :: a3 :: a4 :: some (.long x) :: r) (.long x :: st) n R σ) : AW K M T pc (a0 :: a1 :: a2 :: a3 :: a4 :: some (.long x) :: r) st n R σ := by
  obtain ⟨⟨p, l, e, s, m⟩, ⟨args, below, meth, c⟩, D, g, ext, base, n0, rm⟩ := K
  intro ok H locs ls hW hS hl
  exact lv_lload ok.1 ok.2.1 hd (lvA_get (i := 5) (v := .long x) hl rfl) (h ok H locs ls hW hS hl)
theorem aw_lload_6 {K : KT} {M : MT} {T : TT} {pc : Nat} {st : List Value} {n : Nat} {R : Rg} {σ : Sg} {a0 a1 a2 a3 a4 a5 : Option Value} {r : List (Option Value)} {x : Int64} (hd : decode M.2.1 pc = .ok (.lload 6, 2)) (h : AW K M T (pc + 2) (a0 :: a1 :: a2 :: a3 :: a4 :: a5 :: some (.long x) :: r) (.long x :: st) n R σ) : AW K M T pc (a0 :: a1 :: a2 :: a3 :: a4 :: a5 :: some (.long x) :: r) st n R σ := by
  obtain ⟨⟨p, l, e, s, m⟩, ⟨args, below, meth, c⟩, D, g, ext, base, n0, rm⟩ := K
  intro ok H locs ls hW hS hl
  exact lv_lload ok.1 ok.2.1 hd (lvA_get (i := 6) (v := .long x) hl rfl) (h ok H locs ls hW hS hl)
theorem aw_lload_7 {K : KT} {M : MT} {T : TT} {pc : Nat} {st : List Value} {n : Nat} {R : Rg} {σ : Sg} {a0 a1 a2 a3 a4 a5 a6 : Option Value} {r : List (Option Value)} {x : Int64} (hd : decode M.2.1 pc = .ok (.lload 7, 2)) (h : AW K M T (pc + 2) (a0 :: a1 :: a2 :: a3 :: a4 :: a5 :: a6 :: some (.long x) :: r) (.long x :: st) n R σ) : AW K M T pc (a0 :: a1 :: a2 :: a3 :: a4 :: a5 :: a6 :: some (.long x) :: r) st n R σ := by
  obtain ⟨⟨p, l, e, s, m⟩, ⟨args, below, meth, c⟩, D, g, ext, base, n0, rm⟩ := K
  intro ok H locs ls hW hS hl
  exact lv_lload ok.1 ok.2.1 hd (lvA_get (i := 7) (v := .long x) hl rfl) (h ok H locs ls hW hS hl)
theorem aw_lload_8 {K : KT} {M : MT} {T : TT} {pc : Nat} {st : List Value} {n : Nat} {R : Rg} {σ : Sg} {a0 a1 a2 a3 a4 a5 a6 a7 : Option Value} {r : List (Option Value)} {x : Int64} (hd : decode M.2.1 pc = .ok (.lload 8, 2)) (h : AW K M T (pc + 2) (a0 :: a1 :: a2 :: a3 :: a4 :: a5 :: a6 :: a7 :: some (.long x) :: r) (.long x :: st) n R σ) : AW K M T pc (a0 :: a1 :: a2 :: a3 :: a4 :: a5 :: a6 :: a7 :: some (.long x) :: r) st n R σ := by
  obtain ⟨⟨p, l, e, s, m⟩, ⟨args, below, meth, c⟩, D, g, ext, base, n0, rm⟩ := K
  intro ok H locs ls hW hS hl
  exact lv_lload ok.1 ok.2.1 hd (lvA_get (i := 8) (v := .long x) hl rfl) (h ok H locs ls hW hS hl)
theorem aw_lload_9 {K : KT} {M : MT} {T : TT} {pc : Nat} {st : List Value} {n : Nat} {R : Rg} {σ : Sg} {a0 a1 a2 a3 a4 a5 a6 a7 a8 : Option Value} {r : List (Option Value)} {x : Int64} (hd : decode M.2.1 pc = .ok (.lload 9, 2)) (h : AW K M T (pc + 2) (a0 :: a1 :: a2 :: a3 :: a4 :: a5 :: a6 :: a7 :: a8 :: some (.long x) :: r) (.long x :: st) n R σ) : AW K M T pc (a0 :: a1 :: a2 :: a3 :: a4 :: a5 :: a6 :: a7 :: a8 :: some (.long x) :: r) st n R σ := by
  obtain ⟨⟨p, l, e, s, m⟩, ⟨args, below, meth, c⟩, D, g, ext, base, n0, rm⟩ := K
  intro ok H locs ls hW hS hl
  exact lv_lload ok.1 ok.2.1 hd (lvA_get (i := 9) (v := .long x) hl rfl) (h ok H locs ls hW hS hl)
theorem aw_lload_10 {K : KT} {M : MT} {T : TT} {pc : Nat} {st : List Value} {n : Nat} {R : Rg} {σ : Sg} {a0 a1 a2 a3 a4 a5 a6 a7 a8 a9 : Option Value} {r : List (Option Value)} {x : Int64} (hd : decode M.2.1 pc = .ok (.lload 10, 2)) (h : AW K M T (pc + 2) (a0 :: a1 :: a2 :: a3 :: a4 :: a5 :: a6 :: a7 :: a8 :: a9 :: some (.long x) :: r) (.long x :: st) n R σ) : AW K M T pc (a0 :: a1 :: a2 :: a3 :: a4 :: a5 :: a6 :: a7 :: a8 :: a9 :: some (.long x) :: r) st n R σ := by
  obtain ⟨⟨p, l, e, s, m⟩, ⟨args, below, meth, c⟩, D, g, ext, base, n0, rm⟩ := K
  intro ok H locs ls hW hS hl
  exact lv_lload ok.1 ok.2.1 hd (lvA_get (i := 10) (v := .long x) hl rfl) (h ok H locs ls hW hS hl)
theorem aw_lload_11 {K : KT} {M : MT} {T : TT} {pc : Nat} {st : List Value} {n : Nat} {R : Rg} {σ : Sg} {a0 a1 a2 a3 a4 a5 a6 a7 a8 a9 a10 : Option Value} {r : List (Option Value)} {x : Int64} (hd : decode M.2.1 pc = .ok (.lload 11, 2)) (h : AW K M T (pc + 2) (a0 :: a1 :: a2 :: a3 :: a4 :: a5 :: a6 :: a7 :: a8 :: a9 :: a10 :: some (.long x) :: r) (.long x :: st) n R σ) : AW K M T pc (a0 :: a1 :: a2 :: a3 :: a4 :: a5 :: a6 :: a7 :: a8 :: a9 :: a10 :: some (.long x) :: r) st n R σ := by
  obtain ⟨⟨p, l, e, s, m⟩, ⟨args, below, meth, c⟩, D, g, ext, base, n0, rm⟩ := K
  intro ok H locs ls hW hS hl
  exact lv_lload ok.1 ok.2.1 hd (lvA_get (i := 11) (v := .long x) hl rfl) (h ok H locs ls hW hS hl)
theorem aw_lload_12 {K : KT} {M : MT} {T : TT} {pc : Nat} {st : List Value} {n : Nat} {R : Rg} {σ : Sg} {a0 a1 a2 a3 a4 a5 a6 a7 a8 a9 a10 a11 : Option Value} {r : List (Option Value)} {x : Int64} (hd : decode M.2.1 pc = .ok (.lload 12, 2)) (h : AW K M T (pc + 2) (a0 :: a1 :: a2 :: a3 :: a4 :: a5 :: a6 :: a7 :: a8 :: a9 :: a10 :: a11 :: some (.long x) :: r) (.long x :: st) n R σ) : AW K M T pc (a0 :: a1 :: a2 :: a3 :: a4 :: a5 :: a6 :: a7 :: a8 :: a9 :: a10 :: a11 :: some (.long x) :: r) st n R σ := by
  obtain ⟨⟨p, l, e, s, m⟩, ⟨args, below, meth, c⟩, D, g, ext, base, n0, rm⟩ := K
  intro ok H locs ls hW hS hl
  exact lv_lload ok.1 ok.2.1 hd (lvA_get (i := 12) (v := .long x) hl rfl) (h ok H locs ls hW hS hl)
theorem aw_lload_13 {K : KT} {M : MT} {T : TT} {pc : Nat} {st : List Value} {n : Nat} {R : Rg} {σ : Sg} {a0 a1 a2 a3 a4 a5 a6 a7 a8 a9 a10 a11 a12 : Option Value} {r : List (Option Value)} {x : Int64} (hd : decode M.2.1 pc = .ok (.lload 13, 2)) (h : AW K M T (pc + 2) (a0 :: a1 :: a2 :: a3 :: a4 :: a5 :: a6 :: a7 :: a8 :: a9 :: a10 :: a11 :: a12 :: some (.long x) :: r) (.long x :: st) n R σ) : AW K M T pc (a0 :: a1 :: a2 :: a3 :: a4 :: a5 :: a6 :: a7 :: a8 :: a9 :: a10 :: a11 :: a12 :: some (.long x) :: r) st n R σ := by
  obtain ⟨⟨p, l, e, s, m⟩, ⟨args, below, meth, c⟩, D, g, ext, base, n0, rm⟩ := K
  intro ok H locs ls hW hS hl
  exact lv_lload ok.1 ok.2.1 hd (lvA_get (i := 13) (v := .long x) hl rfl) (h ok H locs ls hW hS hl)
theorem aw_lload_14 {K : KT} {M : MT} {T : TT} {pc : Nat} {st : List Value} {n : Nat} {R : Rg} {σ : Sg} {a0 a1 a2 a3 a4 a5 a6 a7 a8 a9 a10 a11 a12 a13 : Option Value} {r : List (Option Value)} {x : Int64} (hd : decode M.2.1 pc = .ok (.lload 14, 2)) (h : AW K M T (pc + 2) (a0 :: a1 :: a2 :: a3 :: a4 :: a5 :: a6 :: a7 :: a8 :: a9 :: a10 :: a11 :: a12 :: a13 :: some (.long x) :: r) (.long x :: st) n R σ) : AW K M T pc (a0 :: a1 :: a2 :: a3 :: a4 :: a5 :: a6 :: a7 :: a8 :: a9 :: a10 :: a11 :: a12 :: a13 :: some (.long x) :: r) st n R σ := by
  obtain ⟨⟨p, l, e, s, m⟩, ⟨args, below, meth, c⟩, D, g, ext, base, n0, rm⟩ := K
  intro ok H locs ls hW hS hl
  exact lv_lload ok.1 ok.2.1 hd (lvA_get (i := 14) (v := .long x) hl rfl) (h ok H locs ls hW hS hl)
theorem aw_lload_15 {K : KT} {M : MT} {T : TT} {pc : Nat} {st : List Value} {n : Nat} {R : Rg} {σ : Sg} {a0 a1 a2 a3 a4 a5 a6 a7 a8 a9 a10 a11 a12 a13 a14 : Option Value} {r : List (Option Value)} {x : Int64} (hd : decode M.2.1 pc = .ok (.lload 15, 2)) (h : AW K M T (pc + 2) (a0 :: a1 :: a2 :: a3 :: a4 :: a5 :: a6 :: a7 :: a8 :: a9 :: a10 :: a11 :: a12 :: a13 :: a14 :: some (.long x) :: r) (.long x :: st) n R σ) : AW K M T pc (a0 :: a1 :: a2 :: a3 :: a4 :: a5 :: a6 :: a7 :: a8 :: a9 :: a10 :: a11 :: a12 :: a13 :: a14 :: some (.long x) :: r) st n R σ := by
  obtain ⟨⟨p, l, e, s, m⟩, ⟨args, below, meth, c⟩, D, g, ext, base, n0, rm⟩ := K
  intro ok H locs ls hW hS hl
  exact lv_lload ok.1 ok.2.1 hd (lvA_get (i := 15) (v := .long x) hl rfl) (h ok H locs ls hW hS hl)
theorem aw_lload_16 {K : KT} {M : MT} {T : TT} {pc : Nat} {st : List Value} {n : Nat} {R : Rg} {σ : Sg} {a0 a1 a2 a3 a4 a5 a6 a7 a8 a9 a10 a11 a12 a13 a14 a15 : Option Value} {r : List (Option Value)} {x : Int64} (hd : decode M.2.1 pc = .ok (.lload 16, 2)) (h : AW K M T (pc + 2) (a0 :: a1 :: a2 :: a3 :: a4 :: a5 :: a6 :: a7 :: a8 :: a9 :: a10 :: a11 :: a12 :: a13 :: a14 :: a15 :: some (.long x) :: r) (.long x :: st) n R σ) : AW K M T pc (a0 :: a1 :: a2 :: a3 :: a4 :: a5 :: a6 :: a7 :: a8 :: a9 :: a10 :: a11 :: a12 :: a13 :: a14 :: a15 :: some (.long x) :: r) st n R σ := by
  obtain ⟨⟨p, l, e, s, m⟩, ⟨args, below, meth, c⟩, D, g, ext, base, n0, rm⟩ := K
  intro ok H locs ls hW hS hl
  exact lv_lload ok.1 ok.2.1 hd (lvA_get (i := 16) (v := .long x) hl rfl) (h ok H locs ls hW hS hl)
theorem aw_lload_17 {K : KT} {M : MT} {T : TT} {pc : Nat} {st : List Value} {n : Nat} {R : Rg} {σ : Sg} {a0 a1 a2 a3 a4 a5 a6 a7 a8 a9 a10 a11 a12 a13 a14 a15 a16 : Option Value} {r : List (Option Value)} {x : Int64} (hd : decode M.2.1 pc = .ok (.lload 17, 2)) (h : AW K M T (pc + 2) (a0 :: a1 :: a2 :: a3 :: a4 :: a5 :: a6 :: a7 :: a8 :: a9 :: a10 :: a11 :: a12 :: a13 :: a14 :: a15 :: a16 :: some (.long x) :: r) (.long x :: st) n R σ) : AW K M T pc (a0 :: a1 :: a2 :: a3 :: a4 :: a5 :: a6 :: a7 :: a8 :: a9 :: a10 :: a11 :: a12 :: a13 :: a14 :: a15 :: a16 :: some (.long x) :: r) st n R σ := by
  obtain ⟨⟨p, l, e, s, m⟩, ⟨args, below, meth, c⟩, D, g, ext, base, n0, rm⟩ := K
  intro ok H locs ls hW hS hl
  exact lv_lload ok.1 ok.2.1 hd (lvA_get (i := 17) (v := .long x) hl rfl) (h ok H locs ls hW hS hl)
theorem aw_aload_0 {K : KT} {M : MT} {T : TT} {pc : Nat} {st : List Value} {n : Nat} {R : Rg} {σ : Sg} {r : List (Option Value)} {x : Nat} (hd : decode M.2.1 pc = .ok (.aload_n 0, 1)) (h : AW K M T (pc + 1) (some (.ref x) :: r) (.ref x :: st) n R σ) : AW K M T pc (some (.ref x) :: r) st n R σ := by
  obtain ⟨⟨p, l, e, s, m⟩, ⟨args, below, meth, c⟩, D, g, ext, base, n0, rm⟩ := K
  intro ok H locs ls hW hS hl
  exact lv_aload_n ok.1 ok.2.1 hd rfl (lvA_get (i := 0) (v := .ref x) hl rfl) (h ok H locs ls hW hS hl)
theorem aw_aload_1 {K : KT} {M : MT} {T : TT} {pc : Nat} {st : List Value} {n : Nat} {R : Rg} {σ : Sg} {a0 : Option Value} {r : List (Option Value)} {x : Nat} (hd : decode M.2.1 pc = .ok (.aload_n 1, 1)) (h : AW K M T (pc + 1) (a0 :: some (.ref x) :: r) (.ref x :: st) n R σ) : AW K M T pc (a0 :: some (.ref x) :: r) st n R σ := by
  obtain ⟨⟨p, l, e, s, m⟩, ⟨args, below, meth, c⟩, D, g, ext, base, n0, rm⟩ := K
  intro ok H locs ls hW hS hl
  exact lv_aload_n ok.1 ok.2.1 hd rfl (lvA_get (i := 1) (v := .ref x) hl rfl) (h ok H locs ls hW hS hl)
theorem aw_aload_2 {K : KT} {M : MT} {T : TT} {pc : Nat} {st : List Value} {n : Nat} {R : Rg} {σ : Sg} {a0 a1 : Option Value} {r : List (Option Value)} {x : Nat} (hd : decode M.2.1 pc = .ok (.aload_n 2, 1)) (h : AW K M T (pc + 1) (a0 :: a1 :: some (.ref x) :: r) (.ref x :: st) n R σ) : AW K M T pc (a0 :: a1 :: some (.ref x) :: r) st n R σ := by
  obtain ⟨⟨p, l, e, s, m⟩, ⟨args, below, meth, c⟩, D, g, ext, base, n0, rm⟩ := K
  intro ok H locs ls hW hS hl
  exact lv_aload_n ok.1 ok.2.1 hd rfl (lvA_get (i := 2) (v := .ref x) hl rfl) (h ok H locs ls hW hS hl)
theorem aw_aload_3 {K : KT} {M : MT} {T : TT} {pc : Nat} {st : List Value} {n : Nat} {R : Rg} {σ : Sg} {a0 a1 a2 : Option Value} {r : List (Option Value)} {x : Nat} (hd : decode M.2.1 pc = .ok (.aload_n 3, 1)) (h : AW K M T (pc + 1) (a0 :: a1 :: a2 :: some (.ref x) :: r) (.ref x :: st) n R σ) : AW K M T pc (a0 :: a1 :: a2 :: some (.ref x) :: r) st n R σ := by
  obtain ⟨⟨p, l, e, s, m⟩, ⟨args, below, meth, c⟩, D, g, ext, base, n0, rm⟩ := K
  intro ok H locs ls hW hS hl
  exact lv_aload_n ok.1 ok.2.1 hd rfl (lvA_get (i := 3) (v := .ref x) hl rfl) (h ok H locs ls hW hS hl)
theorem aw_aload_4 {K : KT} {M : MT} {T : TT} {pc : Nat} {st : List Value} {n : Nat} {R : Rg} {σ : Sg} {a0 a1 a2 a3 : Option Value} {r : List (Option Value)} {x : Nat} (hd : decode M.2.1 pc = .ok (.aload 4, 2)) (h : AW K M T (pc + 2) (a0 :: a1 :: a2 :: a3 :: some (.ref x) :: r) (.ref x :: st) n R σ) : AW K M T pc (a0 :: a1 :: a2 :: a3 :: some (.ref x) :: r) st n R σ := by
  obtain ⟨⟨p, l, e, s, m⟩, ⟨args, below, meth, c⟩, D, g, ext, base, n0, rm⟩ := K
  intro ok H locs ls hW hS hl
  exact lv_aload ok.1 ok.2.1 hd (lvA_get (i := 4) (v := .ref x) hl rfl) (h ok H locs ls hW hS hl)
theorem aw_aload_5 {K : KT} {M : MT} {T : TT} {pc : Nat} {st : List Value} {n : Nat} {R : Rg} {σ : Sg} {a0 a1 a2 a3 a4 : Option Value} {r : List (Option Value)} {x : Nat} (hd : decode M.2.1 pc = .ok (.aload 5, 2)) (h : AW K M T (pc + 2) (a0 :: a1 :: a2 :: a3 :: a4 :: some (.ref x) :: r) (.ref x :: st) n R σ) : AW K M T pc (a0 :: a1 :: a2 :: a3 :: a4 :: some (.ref x) :: r) st n R σ := by
  obtain ⟨⟨p, l, e, s, m⟩, ⟨args, below, meth, c⟩, D, g, ext, base, n0, rm⟩ := K
  intro ok H locs ls hW hS hl
  exact lv_aload ok.1 ok.2.1 hd (lvA_get (i := 5) (v := .ref x) hl rfl) (h ok H locs ls hW hS hl)
theorem aw_aload_6 {K : KT} {M : MT} {T : TT} {pc : Nat} {st : List Value} {n : Nat} {R : Rg} {σ : Sg} {a0 a1 a2 a3 a4 a5 : Option Value} {r : List (Option Value)} {x : Nat} (hd : decode M.2.1 pc = .ok (.aload 6, 2)) (h : AW K M T (pc + 2) (a0 :: a1 :: a2 :: a3 :: a4 :: a5 :: some (.ref x) :: r) (.ref x :: st) n R σ) : AW K M T pc (a0 :: a1 :: a2 :: a3 :: a4 :: a5 :: some (.ref x) :: r) st n R σ := by
  obtain ⟨⟨p, l, e, s, m⟩, ⟨args, below, meth, c⟩, D, g, ext, base, n0, rm⟩ := K
  intro ok H locs ls hW hS hl
  exact lv_aload ok.1 ok.2.1 hd (lvA_get (i := 6) (v := .ref x) hl rfl) (h ok H locs ls hW hS hl)
theorem aw_aload_7 {K : KT} {M : MT} {T : TT} {pc : Nat} {st : List Value} {n : Nat} {R : Rg} {σ : Sg} {a0 a1 a2 a3 a4 a5 a6 : Option Value} {r : List (Option Value)} {x : Nat} (hd : decode M.2.1 pc = .ok (.aload 7, 2)) (h : AW K M T (pc + 2) (a0 :: a1 :: a2 :: a3 :: a4 :: a5 :: a6 :: some (.ref x) :: r) (.ref x :: st) n R σ) : AW K M T pc (a0 :: a1 :: a2 :: a3 :: a4 :: a5 :: a6 :: some (.ref x) :: r) st n R σ := by
  obtain ⟨⟨p, l, e, s, m⟩, ⟨args, below, meth, c⟩, D, g, ext, base, n0, rm⟩ := K
  intro ok H locs ls hW hS hl
  exact lv_aload ok.1 ok.2.1 hd (lvA_get (i := 7) (v := .ref x) hl rfl) (h ok H locs ls hW hS hl)
theorem aw_aload_8 {K : KT} {M : MT} {T : TT} {pc : Nat} {st : List Value} {n : Nat} {R : Rg} {σ : Sg} {a0 a1 a2 a3 a4 a5 a6 a7 : Option Value} {r : List (Option Value)} {x : Nat} (hd : decode M.2.1 pc = .ok (.aload 8, 2)) (h : AW K M T (pc + 2) (a0 :: a1 :: a2 :: a3 :: a4 :: a5 :: a6 :: a7 :: some (.ref x) :: r) (.ref x :: st) n R σ) : AW K M T pc (a0 :: a1 :: a2 :: a3 :: a4 :: a5 :: a6 :: a7 :: some (.ref x) :: r) st n R σ := by
  obtain ⟨⟨p, l, e, s, m⟩, ⟨args, below, meth, c⟩, D, g, ext, base, n0, rm⟩ := K
  intro ok H locs ls hW hS hl
  exact lv_aload ok.1 ok.2.1 hd (lvA_get (i := 8) (v := .ref x) hl rfl) (h ok H locs ls hW hS hl)
theorem aw_aload_9 {K : KT} {M : MT} {T : TT} {pc : Nat} {st : List Value} {n : Nat} {R : Rg} {σ : Sg} {a0 a1 a2 a3 a4 a5 a6 a7 a8 : Option Value} {r : List (Option Value)} {x : Nat} (hd : decode M.2.1 pc = .ok (.aload 9, 2)) (h : AW K M T (pc + 2) (a0 :: a1 :: a2 :: a3 :: a4 :: a5 :: a6 :: a7 :: a8 :: some (.ref x) :: r) (.ref x :: st) n R σ) : AW K M T pc (a0 :: a1 :: a2 :: a3 :: a4 :: a5 :: a6 :: a7 :: a8 :: some (.ref x) :: r) st n R σ := by
  obtain ⟨⟨p, l, e, s, m⟩, ⟨args, below, meth, c⟩, D, g, ext, base, n0, rm⟩ := K
  intro ok H locs ls hW hS hl
  exact lv_aload ok.1 ok.2.1 hd (lvA_get (i := 9) (v := .ref x) hl rfl) (h ok H locs ls hW hS hl)
theorem aw_aload_10 {K : KT} {M : MT} {T : TT} {pc : Nat} {st : List Value} {n : Nat} {R : Rg} {σ : Sg} {a0 a1 a2 a3 a4 a5 a6 a7 a8 a9 : Option Value} {r : List (Option Value)} {x : Nat} (hd : decode M.2.1 pc = .ok (.aload 10, 2)) (h : AW K M T (pc + 2) (a0 :: a1 :: a2 :: a3 :: a4 :: a5 :: a6 :: a7 :: a8 :: a9 :: some (.ref x) :: r) (.ref x :: st) n R σ) : AW K M T pc (a0 :: a1 :: a2 :: a3 :: a4 :: a5 :: a6 :: a7 :: a8 :: a9 :: some (.ref x) :: r) st n R σ := by
  obtain ⟨⟨p, l, e, s, m⟩, ⟨args, below, meth, c⟩, D, g, ext, base, n0, rm⟩ := K
  intro ok H locs ls hW hS hl
  exact lv_aload ok.1 ok.2.1 hd (lvA_get (i := 10) (v := .ref x) hl rfl) (h ok H locs ls hW hS hl)
theorem aw_aload_11 {K : KT} {M : MT} {T : TT} {pc : Nat} {st : List Value} {n : Nat} {R : Rg} {σ : Sg} {a0 a1 a2 a3 a4 a5 a6 a7 a8 a9 a10 : Option Value} {r : List (Option Value)} {x : Nat} (hd : decode M.2.1 pc = .ok (.aload 11, 2)) (h : AW K M T (pc + 2) (a0 :: a1 :: a2 :: a3 :: a4 :: a5 :: a6 :: a7 :: a8 :: a9 :: a10 :: some (.ref x) :: r) (.ref x :: st) n R σ) : AW K M T pc (a0 :: a1 :: a2 :: a3 :: a4 :: a5 :: a6 :: a7 :: a8 :: a9 :: a10 :: some (.ref x) :: r) st n R σ := by
  obtain ⟨⟨p, l, e, s, m⟩, ⟨args, below, meth, c⟩, D, g, ext, base, n0, rm⟩ := K
  intro ok H locs ls hW hS hl
  exact lv_aload ok.1 ok.2.1 hd (lvA_get (i := 11) (v := .ref x) hl rfl) (h ok H locs ls hW hS hl)
theorem aw_aload_12 {K : KT} {M : MT} {T : TT} {pc : Nat} {st : List Value} {n : Nat} {R : Rg} {σ : Sg} {a0 a1 a2 a3 a4 a5 a6 a7 a8 a9 a10 a11 : Option Value} {r : List (Option Value)} {x : Nat} (hd : decode M.2.1 pc = .ok (.aload 12, 2)) (h : AW K M T (pc + 2) (a0 :: a1 :: a2 :: a3 :: a4 :: a5 :: a6 :: a7 :: a8 :: a9 :: a10 :: a11 :: some (.ref x) :: r) (.ref x :: st) n R σ) : AW K M T pc (a0 :: a1 :: a2 :: a3 :: a4 :: a5 :: a6 :: a7 :: a8 :: a9 :: a10 :: a11 :: some (.ref x) :: r) st n R σ := by
  obtain ⟨⟨p, l, e, s, m⟩, ⟨args, below, meth, c⟩, D, g, ext, base, n0, rm⟩ := K
  intro ok H locs ls hW hS hl
  exact lv_aload ok.1 ok.2.1 hd (lvA_get (i := 12) (v := .ref x) hl rfl) (h ok H locs ls hW hS hl)
theorem aw_aload_13 {K : KT} {M : MT} {T : TT} {pc : Nat} {st : List Value} {n : Nat} {R : Rg} {σ : Sg} {a0 a1 a2 a3 a4 a5 a6 a7 a8 a9 a10 a11 a12 : Option Value} {r : List (Option Value)} {x : Nat} (hd : decode M.2.1 pc = .ok (.aload 13, 2)) (h : AW K M T (pc + 2) (a0 :: a1 :: a2 :: a3 :: a4 :: a5 :: a6 :: a7 :: a8 :: a9 :: a10 :: a11 :: a12 :: some (.ref x) :: r) (.ref x :: st) n R σ) : AW K M T pc (a0 :: a1 :: a2 :: a3 :: a4 :: a5 :: a6 :: a7 :: a8 :: a9 :: a10 :: a11 :: a12 :: some (.ref x) :: r) st n R σ := by
  obtain ⟨⟨p, l, e, s, m⟩, ⟨args, below, meth, c⟩, D, g, ext, base, n0, rm⟩ := K
  intro ok H locs ls hW hS hl
  exact lv_aload ok.1 ok.2.1 hd (lvA_get (i := 13) (v := .ref x) hl rfl) (h ok H locs ls hW hS hl)
theorem aw_aload_14 {K : KT} {M : MT} {T : TT} {pc : Nat} {st : List Value} {n : Nat} {R : Rg} {σ : Sg} {a0 a1 a2 a3 a4 a5 a6 a7 a8 a9 a10 a11 a12 a13 : Option Value} {r : List (Option Value)} {x : Nat} (hd : decode M.2.1 pc = .ok (.aload 14, 2)) (h : AW K M T (pc + 2) (a0 :: a1 :: a2 :: a3 :: a4 :: a5 :: a6 :: a7 :: a8 :: a9 :: a10 :: a11 :: a12 :: a13 :: some (.ref x) :: r) (.ref x :: st) n R σ) : AW K M T pc (a0 :: a1 :: a2 :: a3 :: a4 :: a5 :: a6 :: a7 :: a8 :: a9 :: a10 :: a11 :: a12 :: a13 :: some (.ref x) :: r) st n R σ := by
  obtain ⟨⟨p, l, e, s, m⟩, ⟨args, below, meth, c⟩, D, g, ext, base, n0, rm⟩ := K
  intro ok H locs ls hW hS hl
  exact lv_aload ok.1 ok.2.1 hd (lvA_get (i := 14) (v := .ref x) hl rfl) (h ok H locs ls hW hS hl)
theorem aw_aload_15 {K : KT} {M : MT} {T : TT} {pc : Nat} {st : List Value} {n : Nat} {R : Rg} {σ : Sg} {a0 a1 a2 a3 a4 a5 a6 a7 a8 a9 a10 a11 a12 a13 a14 : Option Value} {r : List (Option Value)} {x : Nat} (hd : decode M.2.1 pc = .ok (.aload 15, 2)) (h : AW K M T (pc + 2) (a0 :: a1 :: a2 :: a3 :: a4 :: a5 :: a6 :: a7 :: a8 :: a9 :: a10 :: a11 :: a12 :: a13 :: a14 :: some (.ref x) :: r) (.ref x :: st) n R σ) : AW K M T pc (a0 :: a1 :: a2 :: a3 :: a4 :: a5 :: a6 :: a7 :: a8 :: a9 :: a10 :: a11 :: a12 :: a13 :: a14 :: some (.ref x) :: r) st n R σ := by
  obtain ⟨⟨p, l, e, s, m⟩, ⟨args, below, meth, c⟩, D, g, ext, base, n0, rm⟩ := K
  intro ok H locs ls hW hS hl
  exact lv_aload ok.1 ok.2.1 hd (lvA_get (i := 15) (v := .ref x) hl rfl) (h ok H locs ls hW hS hl)
theorem aw_aload_16 {K : KT} {M : MT} {T : TT} {pc : Nat} {st : List Value} {n : Nat} {R : Rg} {σ : Sg} {a0 a1 a2 a3 a4 a5 a6 a7 a8 a9 a10 a11 a12 a13 a14 a15 : Option Value} {r : List (Option Value)} {x : Nat} (hd : decode M.2.1 pc = .ok (.aload 16, 2)) (h : AW K M T (pc + 2) (a0 :: a1 :: a2 :: a3 :: a4 :: a5 :: a6 :: a7 :: a8 :: a9 :: a10 :: a11 :: a12 :: a13 :: a14 :: a15 :: some (.ref x) :: r) (.ref x :: st) n R σ) : AW K M T pc (a0 :: a1 :: a2 :: a3 :: a4 :: a5 :: a6 :: a7 :: a8 :: a9 :: a10 :: a11 :: a12 :: a13 :: a14 :: a15 :: some (.ref x) :: r) st n R σ := by
  obtain ⟨⟨p, l, e, s, m⟩, ⟨args, below, meth, c⟩, D, g, ext, base, n0, rm⟩ := K
  intro ok H locs ls hW hS hl
  exact lv_aload ok.1 ok.2.1 hd (lvA_get (i := 16) (v := .ref x) hl rfl) (h ok H locs ls hW hS hl)
theorem aw_aload_17 {K : KT} {M : MT} {T : TT} {pc : Nat} {st : List Value} {n : Nat} {R : Rg} {σ : Sg} {a0 a1 a2 a3 a4 a5 a6 a7 a8 a9 a10 a11 a12 a13 a14 a15 a16 : Option Value} {r : List (Option Value)} {x : Nat} (hd : decode M.2.1 pc = .ok (.aload 17, 2)) (h : AW K M T (pc + 2) (a0 :: a1 :: a2 :: a3 :: a4 :: a5 :: a6 :: a7 :: a8 :: a9 :: a10 :: a11 :: a12 :: a13 :: a14 :: a15 :: a16 :: some (.ref x) :: r) (.ref x :: st) n R σ) : AW K M T pc (a0 :: a1 :: a2 :: a3 :: a4 :: a5 :: a6 :: a7 :: a8 :: a9 :: a10 :: a11 :: a12 :: a13 :: a14 :: a15 :: a16 :: some (.ref x) :: r) st n R σ := by
  obtain ⟨⟨p, l, e, s, m⟩, ⟨args, below, meth, c⟩, D, g, ext, base, n0, rm⟩ := K
  intro ok H locs ls hW hS hl
  exact lv_aload ok.1 ok.2.1 hd (lvA_get (i := 17) (v := .ref x) hl rfl) (h ok H locs ls hW hS hl)
theorem aw_istore_0 {K : KT} {M : MT} {T : TT} {pc : Nat} {st : List Value} {n : Nat} {R : Rg} {σ : Sg} {o : Option Value} {r : List (Option Value)} {x : Int32} (hd : decode M.2.1 pc = .ok (.istore_n 0, 1)) (hn : 0 < M.2.2.1) (h : AW K M T (pc + 1) (some (.int x) :: r) st n R σ) : AW K M T pc (o :: r) (.int x :: st) n R σ := by
  obtain ⟨⟨p, l, e, s, m⟩, ⟨args, below, meth, c⟩, D, g, ext, base, n0, rm⟩ := K
  intro ok H locs ls hW hS hl
  exact lv_istore_n (i := 0) ok.1 ok.2.1 hd rfl hl hn rfl (fun ls' hl' => h ok H locs ls' hW hS (by have z := lvA_set1 (i := 0) (v := .int x) (fun w q _ => absurd q (Nat.lt_irrefl 0)) (by simp) hl'; simpa using z))
theorem aw_istore_1 {K : KT} {M : MT} {T : TT} {pc : Nat} {st : List Value} {n : Nat} {R : Rg} {σ : Sg} {a0 o : Option Value} {r : List (Option Value)} {x : Int32} (hd : decode M.2.1 pc = .ok (.istore_n 1, 1)) (hn : 1 < M.2.2.1) (hp : okc a0 = true) (h : AW K M T (pc + 1) (a0 :: some (.int x) :: r) st n R σ) : AW K M T pc (a0 :: o :: r) (.int x :: st) n R σ := by
  obtain ⟨⟨p, l, e, s, m⟩, ⟨args, below, meth, c⟩, D, g, ext, base, n0, rm⟩ := K
  intro ok H locs ls hW hS hl
  exact lv_istore_n (i := 1) ok.1 ok.2.1 hd rfl hl hn rfl (fun ls' hl' => h ok H locs ls' hW hS (by have z := lvA_set1 (i := 1) (v := .int x) (fun w _ e => by simp at e; rw [← e]; exact hp) (by simp) hl'; simpa using z))
theorem aw_istore_2 {K : KT} {M : MT} {T : TT} {pc : Nat} {st : List Value} {n : Nat} {R : Rg} {σ : Sg} {a0 a1 o : Option Value} {r : List (Option Value)} {x : Int32} (hd : decode M.2.1 pc = .ok (.istore_n 2, 1)) (hn : 2 < M.2.2.1) (hp : okc a1 = true) (h : AW K M T (pc + 1) (a0 :: a1 :: some (.int x) :: r) st n R σ) : AW K M T pc (a0 :: a1 :: o :: r) (.int x :: st) n R σ := by
  obtain ⟨⟨p, l, e, s, m⟩, ⟨args, below, meth, c⟩, D, g, ext, base, n0, rm⟩ := K
  intro ok H locs ls hW hS hl
  exact lv_istore_n (i := 2) ok.1 ok.2.1 hd rfl hl hn rfl (fun ls' hl' => h ok H locs ls' hW hS (by have z := lvA_set1 (i := 2) (v := .int x) (fun w _ e => by simp at e; rw [← e]; exact hp) (by simp) hl'; simpa using z))
theorem aw_istore_3 {K : KT} {M : MT} {T : TT} {pc : Nat} {st : List Value} {n : Nat} {R : Rg} {σ : Sg} {a0 a1 a2 o : Option Value} {r : List (Option Value)} {x : Int32} (hd : decode M.2.1 pc = .ok (.istore_n 3, 1)) (hn : 3 < M.2.2.1) (hp : okc a2 = true) (h : AW K M T (pc + 1) (a0 :: a1 :: a2 :: some (.int x) :: r) st n R σ) : AW K M T pc (a0 :: a1 :: a2 :: o :: r) (.int x :: st) n R σ := by
  obtain ⟨⟨p, l, e, s, m⟩, ⟨args, below, meth, c⟩, D, g, ext, base, n0, rm⟩ := K
  intro ok H locs ls hW hS hl
  exact lv_istore_n (i := 3) ok.1 ok.2.1 hd rfl hl hn rfl (fun ls' hl' => h ok H locs ls' hW hS (by have z := lvA_set1 (i := 3) (v := .int x) (fun w _ e => by simp at e; rw [← e]; exact hp) (by simp) hl'; simpa using z))
theorem aw_istore_4 {K : KT} {M : MT} {T : TT} {pc : Nat} {st : List Value} {n : Nat} {R : Rg} {σ : Sg} {a0 a1 a2 a3 o : Option Value} {r : List (Option Value)} {x : Int32} (hd : decode M.2.1 pc = .ok (.istore 4, 2)) (hn : 4 < M.2.2.1) (hp : okc a3 = true) (h : AW K M T (pc + 2) (a0 :: a1 :: a2 :: a3 :: some (.int x) :: r) st n R σ) : AW K M T pc (a0 :: a1 :: a2 :: a3 :: o :: r) (.int x :: st) n R σ := by
  obtain ⟨⟨p, l, e, s, m⟩, ⟨args, below, meth, c⟩, D, g, ext, base, n0, rm⟩ := K
  intro ok H locs ls hW hS hl
  exact lv_istore (i := 4) ok.1 ok.2.1 hd hl hn rfl (fun ls' hl' => h ok H locs ls' hW hS (by have z := lvA_set1 (i := 4) (v := .int x) (fun w _ e => by simp at e; rw [← e]; exact hp) (by simp) hl'; simpa using z))
theorem aw_istore_5 {K : KT} {M : MT} {T : TT} {pc : Nat} {st : List Value} {n : Nat} {R : Rg} {σ : Sg} {a0 a1 a2 a3 a4 o : Option Value} {r : List (Option Value)} {x : Int32} (hd : decode M.2.1 pc = .ok (.istore 5, 2)) (hn : 5 < M.2.2.1) (hp : okc a4 = true) (h : AW K M T (pc + 2) (a0 :: a1 :: a2 :: a3 :: a4 :: some (.int x) :: r) st n R σ) : AW K M T pc (a0 :: a1 :: a2 :: a3 :: a4 :: o :: r) (.int x :: st) n R σ := by
  obtain ⟨⟨p, l, e, s, m⟩, ⟨args, below, meth, c⟩, D, g, ext, base, n0, rm⟩ := K
  intro ok H locs ls hW hS hl
  exact lv_istore (i := 5) ok.1 ok.2.1 hd hl hn rfl (fun ls' hl' => h ok H locs ls' hW hS (by have z := lvA_set1 (i := 5) (v := .int x) (fun w _ e => by simp at e; rw [← e]; exact hp) (by simp) hl'; simpa using z))
theorem aw_istore_6 {K : KT} {M : MT} {T : TT} {pc : Nat} {st : List Value} {n : Nat} {R : Rg} {σ : Sg} {a0 a1 a2 a3 a4 a5 o : Option Value} {r : List (Option Value)} {x : Int32} (hd : decode M.2.1 pc = .ok (.istore 6, 2)) (hn : 6 < M.2.2.1) (hp : okc a5 = true) (h : AW K M T (pc + 2) (a0 :: a1 :: a2 :: a3 :: a4 :: a5 :: some (.int x) :: r) st n R σ) : AW K M T pc (a0 :: a1 :: a2 :: a3 :: a4 :: a5 :: o :: r) (.int x :: st) n R σ := by
  obtain ⟨⟨p, l, e, s, m⟩, ⟨args, below, meth, c⟩, D, g, ext, base, n0, rm⟩ := K
  intro ok H locs ls hW hS hl
  exact lv_istore (i := 6) ok.1 ok.2.1 hd hl hn rfl (fun ls' hl' => h ok H locs ls' hW hS (by have z := lvA_set1 (i := 6) (v := .int x) (fun w _ e => by simp at e; rw [← e]; exact hp) (by simp) hl'; simpa using z))
theorem aw_istore_7 {K : KT} {M : MT} {T : TT} {pc : Nat} {st : List Value} {n : Nat} {R : Rg} {σ : Sg} {a0 a1 a2 a3 a4 a5 a6 o : Option Value} {r : List (Option Value)} {x : Int32} (hd : decode M.2.1 pc = .ok (.istore 7, 2)) (hn : 7 < M.2.2.1) (hp : okc a6 = true) (h : AW K M T (pc + 2) (a0 :: a1 :: a2 :: a3 :: a4 :: a5 :: a6 :: some (.int x) :: r) st n R σ) : AW K M T pc (a0 :: a1 :: a2 :: a3 :: a4 :: a5 :: a6 :: o :: r) (.int x :: st) n R σ := by
  obtain ⟨⟨p, l, e, s, m⟩, ⟨args, below, meth, c⟩, D, g, ext, base, n0, rm⟩ := K
  intro ok H locs ls hW hS hl
  exact lv_istore (i := 7) ok.1 ok.2.1 hd hl hn rfl (fun ls' hl' => h ok H locs ls' hW hS (by have z := lvA_set1 (i := 7) (v := .int x) (fun w _ e => by simp at e; rw [← e]; exact hp) (by simp) hl'; simpa using z))
theorem aw_istore_8 {K : KT} {M : MT} {T : TT} {pc : Nat} {st : List Value} {n : Nat} {R : Rg} {σ : Sg} {a0 a1 a2 a3 a4 a5 a6 a7 o : Option Value} {r : List (Option Value)} {x : Int32} (hd : decode M.2.1 pc = .ok (.istore 8, 2)) (hn : 8 < M.2.2.1) (hp : okc a7 = true) (h : AW K M T (pc + 2) (a0 :: a1 :: a2 :: a3 :: a4 :: a5 :: a6 :: a7 :: some (.int x) :: r) st n R σ) : AW K M T pc (a0 :: a1 :: a2 :: a3 :: a4 :: a5 :: a6 :: a7 :: o :: r) (.int x :: st) n R σ := by
  obtain ⟨⟨p, l, e, s, m⟩, ⟨args, below, meth, c⟩, D, g, ext, base, n0, rm⟩ := K
  intro ok H locs ls hW hS hl
  exact lv_istore (i := 8) ok.1 ok.2.1 hd hl hn rfl (fun ls' hl' => h ok H locs ls' hW hS (by have z := lvA_set1 (i := 8) (v := .int x) (fun w _ e => by simp at e; rw [← e]; exact hp) (by simp) hl'; simpa using z))
theorem aw_istore_9 {K : KT} {M : MT} {T : TT} {pc : Nat} {st : List Value} {n : Nat} {R : Rg} {σ : Sg} {a0 a1 a2 a3 a4 a5 a6 a7 a8 o : Option Value} {r : List (Option Value)} {x : Int32} (hd : decode M.2.1 pc = .ok (.istore 9, 2)) (hn : 9 < M.2.2.1) (hp : okc a8 = true) (h : AW K M T (pc + 2) (a0 :: a1 :: a2 :: a3 :: a4 :: a5 :: a6 :: a7 :: a8 :: some (.int x) :: r) st n R σ) : AW K M T pc (a0 :: a1 :: a2 :: a3 :: a4 :: a5 :: a6 :: a7 :: a8 :: o :: r) (.int x :: st) n R σ := by
  obtain ⟨⟨p, l, e, s, m⟩, ⟨args, below, meth, c⟩, D, g, ext, base, n0, rm⟩ := K
  intro ok H locs ls hW hS hl
  exact lv_istore (i := 9) ok.1 ok.2.1 hd hl hn rfl (fun ls' hl' => h ok H locs ls' hW hS (by have z := lvA_set1 (i := 9) (v := .int x) (fun w _ e => by simp at e; rw [← e]; exact hp) (by simp) hl'; simpa using z))
theorem aw_istore_10 {K : KT} {M : MT} {T : TT} {pc : Nat} {st : List Value} {n : Nat} {R : Rg} {σ : Sg} {a0 a1 a2 a3 a4 a5 a6 a7 a8 a9 o : Option Value} {r : List (Option Value)} {x : Int32} (hd : decode M.2.1 pc = .ok (.istore 10, 2)) (hn : 10 < M.2.2.1) (hp : okc a9 = true) (h : AW K M T (pc + 2) (a0 :: a1 :: a2 :: a3 :: a4 :: a5 :: a6 :: a7 :: a8 :: a9 :: some (.int x) :: r) st n R σ) : AW K M T pc (a0 :: a1 :: a2 :: a3 :: a4 :: a5 :: a6 :: a7 :: a8 :: a9 :: o :: r) (.int x :: st) n R σ := by
  obtain ⟨⟨p, l, e, s, m⟩, ⟨args, below, meth, c⟩, D, g, ext, base, n0, rm⟩ := K
  intro ok H locs ls hW hS hl
  exact lv_istore (i := 10) ok.1 ok.2.1 hd hl hn rfl (fun ls' hl' => h ok H locs ls' hW hS (by have z := lvA_set1 (i := 10) (v := .int x) (fun w _ e => by simp at e; rw [← e]; exact hp) (by simp) hl'; simpa using z))
theorem aw_istore_11 {K : KT} {M : MT} {T : TT} {pc : Nat} {st : List Value} {n : Nat} {R : Rg} {σ : Sg} {a0 a1 a2 a3 a4 a5 a6 a7 a8 a9 a10 o : Option Value} {r : List (Option Value)} {x : Int32} (hd : decode M.2.1 pc = .ok (.istore 11, 2)) (hn : 11 < M.2.2.1) (hp : okc a10 = true) (h : AW K M T (pc + 2) (a0 :: a1 :: a2 :: a3 :: a4 :: a5 :: a6 :: a7 :: a8 :: a9 :: a10 :: some (.int x) :: r) st n R σ) : AW K M T pc (a0 :: a1 :: a2 :: a3 :: a4 :: a5 :: a6 :: a7 :: a8 :: a9 :: a10 :: o :: r) (.int x :: st) n R σ := by
  obtain ⟨⟨p, l, e, s, m⟩, ⟨args, below, meth, c⟩, D, g, ext, base, n0, rm⟩ := K
  intro ok H locs ls hW hS hl
  exact lv_istore (i := 11) ok.1 ok.2.1 hd hl hn rfl (fun ls' hl' => h ok H locs ls' hW hS (by have z := lvA_set1 (i := 11) (v := .int x) (fun w _ e => by simp at e; rw [← e]; exact hp) (by simp) hl'; simpa using z))
theorem aw_istore_12 {K : KT} {M : MT} {T : TT} {pc : Nat} {st : List Value} {n : Nat} {R : Rg} {σ : Sg} {a0 a1 a2 a3 a4 a5 a6 a7 a8 a9 a10 a11 o : Option Value} {r : List (Option Value)} {x : Int32} (hd : decode M.2.1 pc = .ok (.istore 12, 2)) (hn : 12 < M.2.2.1) (hp : okc a11 = true) (h : AW K M T (pc + 2) (a0 :: a1 :: a2 :: a3 :: a4 :: a5 :: a6 :: a7 :: a8 :: a9 :: a10 :: a11 :: some (.int x) :: r) st n R σ) : AW K M T pc (a0 :: a1 :: a2 :: a3 :: a4 :: a5 :: a6 :: a7 :: a8 :: a9 :: a10 :: a11 :: o :: r) (.int x :: st) n R σ := by
  obtain ⟨⟨p, l, e, s, m⟩, ⟨args, below, meth, c⟩, D, g, ext, base, n0, rm⟩ := K
  intro ok H locs ls hW hS hl
  exact lv_istore (i := 12) ok.1 ok.2.1 hd hl hn rfl (fun ls' hl' => h ok H locs ls' hW hS (by have z := lvA_set1 (i := 12) (v := .int x) (fun w _ e => by simp at e; rw [← e]; exact hp) (by simp) hl'; simpa using z))
theorem aw_istore_13 {K : KT} {M : MT} {T : TT} {pc : Nat} {st : List Value} {n : Nat} {R : Rg} {σ : Sg} {a0 a1 a2 a3 a4 a5 a6 a7 a8 a9 a10 a11 a12 o : Option Value} {r : List (Option Value)} {x : Int32} (hd : decode M.2.1 pc = .ok (.istore 13, 2)) (hn : 13 < M.2.2.1) (hp : okc a12 = true) (h : AW K M T (pc + 2) (a0 :: a1 :: a2 :: a3 :: a4 :: a5 :: a6 :: a7 :: a8 :: a9 :: a10 :: a11 :: a12 :: some (.int x) :: r) st n R σ) : AW K M T pc (a0 :: a1 :: a2 :: a3 :: a4 :: a5 :: a6 :: a7 :: a8 :: a9 :: a10 :: a11 :: a12 :: o :: r) (.int x :: st) n R σ := by
  obtain ⟨⟨p, l, e, s, m⟩, ⟨args, below, meth, c⟩, D, g, ext, base, n0, rm⟩ := K
  intro ok H locs ls hW hS hl
  exact lv_istore (i := 13) ok.1 ok.2.1 hd hl hn rfl (fun ls' hl' => h ok H locs ls' hW hS (by have z := lvA_set1 (i := 13) (v := .int x) (fun w _ e => by simp at e; rw [← e]; exact hp) (by simp) hl'; simpa using z))
theorem aw_istore_14 {K : KT} {M : MT} {T : TT} {pc : Nat} {st : List Value} {n : Nat} {R : Rg} {σ : Sg} {a0 a1 a2 a3 a4 a5 a6 a7 a8 a9 a10 a11 a12 a13 o : Option Value} {r : List (Option Value)} {x : Int32} (hd : decode M.2.1 pc = .ok (.istore 14, 2)) (hn : 14 < M.2.2.1) (hp : okc a13 = true) (h : AW K M T (pc + 2) (a0 :: a1 :: a2 :: a3 :: a4 :: a5 :: a6 :: a7 :: a8 :: a9 :: a10 :: a11 :: a12 :: a13 :: some (.int x) :: r) st n R σ) : AW K M T pc (a0 :: a1 :: a2 :: a3 :: a4 :: a5 :: a6 :: a7 :: a8 :: a9 :: a10 :: a11 :: a12 :: a13 :: o :: r) (.int x :: st) n R σ := by
  obtain ⟨⟨p, l, e, s, m⟩, ⟨args, below, meth, c⟩, D, g, ext, base, n0, rm⟩ := K
  intro ok H locs ls hW hS hl
  exact lv_istore (i := 14) ok.1 ok.2.1 hd hl hn rfl (fun ls' hl' => h ok H locs ls' hW hS (by have z := lvA_set1 (i := 14) (v := .int x) (fun w _ e => by simp at e; rw [← e]; exact hp) (by simp) hl'; simpa using z))
theorem aw_istore_15 {K : KT} {M : MT} {T : TT} {pc : Nat} {st : List Value} {n : Nat} {R : Rg} {σ : Sg} {a0 a1 a2 a3 a4 a5 a6 a7 a8 a9 a10 a11 a12 a13 a14 o : Option Value} {r : List (Option Value)} {x : Int32} (hd : decode M.2.1 pc = .ok (.istore 15, 2)) (hn : 15 < M.2.2.1) (hp : okc a14 = true) (h : AW K M T (pc + 2) (a0 :: a1 :: a2 :: a3 :: a4 :: a5 :: a6 :: a7 :: a8 :: a9 :: a10 :: a11 :: a12 :: a13 :: a14 :: some (.int x) :: r) st n R σ) : AW K M T pc (a0 :: a1 :: a2 :: a3 :: a4 :: a5 :: a6 :: a7 :: a8 :: a9 :: a10 :: a11 :: a12 :: a13 :: a14 :: o :: r) (.int x :: st) n R σ := by
  obtain ⟨⟨p, l, e, s, m⟩, ⟨args, below, meth, c⟩, D, g, ext, base, n0, rm⟩ := K
  intro ok H locs ls hW hS hl
  exact lv_istore (i := 15) ok.1 ok.2.1 hd hl hn rfl (fun ls' hl' => h ok H locs ls' hW hS (by have z := lvA_set1 (i := 15) (v := .int x) (fun w _ e => by simp at e; rw [← e]; exact hp) (by simp) hl'; simpa using z))
theorem aw_istore_16 {K : KT} {M : MT} {T : TT} {pc : Nat} {st : List Value} {n : Nat} {R : Rg} {σ : Sg} {a0 a1 a2 a3 a4 a5 a6 a7 a8 a9 a10 a11 a12 a13 a14 a15 o : Option Value} {r : List (Option Value)} {x : Int32} (hd : decode M.2.1 pc = .ok (.istore 16, 2)) (hn : 16 < M.2.2.1) (hp : okc a15 = true) (h : AW K M T (pc + 2) (a0 :: a1 :: a2 :: a3 :: a4 :: a5 :: a6 :: a7 :: a8 :: a9 :: a10 :: a11 :: a12 :: a13 :: a14 :: a15 :: some (.int x) :: r) st n R σ) : AW K M T pc (a0 :: a1 :: a2 :: a3 :: a4 :: a5 :: a6 :: a7 :: a8 :: a9 :: a10 :: a11 :: a12 :: a13 :: a14 :: a15 :: o :: r) (.int x :: st) n R σ := by
  obtain ⟨⟨p, l, e, s, m⟩, ⟨args, below, meth, c⟩, D, g, ext, base, n0, rm⟩ := K
  intro ok H locs ls hW hS hl
  exact lv_istore (i := 16) ok.1 ok.2.1 hd hl hn rfl (fun ls' hl' => h ok H locs ls' hW hS (by have z := lvA_set1 (i := 16) (v := .int x) (fun w _ e => by simp at e; rw [← e]; exact hp) (by simp) hl'; simpa using z))
theorem aw_lstore_0 {K : KT} {M : MT} {T : TT} {pc : Nat} {st : List Value} {n : Nat} {R : Rg} {σ : Sg} {o o2 : Option Value} {r : List (Option Value)} {x : Int64} (hd : decode M.2.1 pc = .ok (.lstore_n 0, 1)) (hn : 1 < M.2.2.1) (h : AW K M T (pc + 1) (some (.long x) :: none :: r) st n R σ) : AW K M T pc (o :: o2 :: r) (.long x :: st) n R σ := by
  obtain ⟨⟨p, l, e, s, m⟩, ⟨args, below, meth, c⟩, D, g, ext, base, n0, rm⟩ := K
  intro ok H locs ls hW hS hl
  exact lv_lstore_n (i := 0) ok.1 ok.2.1 hd rfl hl hn rfl (fun ls' hl' => h ok H locs ls' hW hS (by have z := lvA_set2 (i := 0) (v := .long x) (fun w q _ => absurd q (Nat.lt_irrefl 0)) (by simp) hl'; simpa using z))
theorem aw_lstore_1 {K : KT} {M : MT} {T : TT} {pc : Nat} {st : List Value} {n : Nat} {R : Rg} {σ : Sg} {a0 o o2 : Option Value} {r : List (Option Value)} {x : Int64} (hd : decode M.2.1 pc = .ok (.lstore_n 1, 1)) (hn : 2 < M.2.2.1) (hp : okc a0 = true) (h : AW K M T (pc + 1) (a0 :: some (.long x) :: none :: r) st n R σ) : AW K M T pc (a0 :: o :: o2 :: r) (.long x :: st) n R σ := by
  obtain ⟨⟨p, l, e, s, m⟩, ⟨args, below, meth, c⟩, D, g, ext, base, n0, rm⟩ := K
  intro ok H locs ls hW hS hl
  exact lv_lstore_n (i := 1) ok.1 ok.2.1 hd rfl hl hn rfl (fun ls' hl' => h ok H locs ls' hW hS (by have z := lvA_set2 (i := 1) (v := .long x) (fun w _ e => by simp at e; rw [← e]; exact hp) (by simp) hl'; simpa using z))
theorem aw_lstore_2 {K : KT} {M : MT} {T : TT} {pc : Nat} {st : List Value} {n : Nat} {R : Rg} {σ : Sg} {a0 a1 o o2 : Option Value} {r : List (Option Value)} {x : Int64} (hd : decode M.2.1 pc = .ok (.lstore_n 2, 1)) (hn : 3 < M.2.2.1) (hp : okc a1 = true) (h : AW K M T (pc + 1) (a0 :: a1 :: some (.long x) :: none :: r) st n R σ) : AW K M T pc (a0 :: a1 :: o :: o2 :: r) (.long x :: st) n R σ := by
  obtain ⟨⟨p, l, e, s, m⟩, ⟨args, below, meth, c⟩, D, g, ext, base, n0, rm⟩ := K
  intro ok H locs ls hW hS hl
  exact lv_lstore_n (i := 2) ok.1 ok.2.1 hd rfl hl hn rfl (fun ls' hl' => h ok H locs ls' hW hS (by have z := lvA_set2 (i := 2) (v := .long x) (fun w _ e => by simp at e; rw [← e]; exact hp) (by simp) hl'; simpa using z))
theorem aw_lstore_3 {K : KT} {M : MT} {T : TT} {pc : Nat} {st : List Value} {n : Nat} {R : Rg} {σ : Sg} {a0 a1 a2 o o2 : Option Value} {r : List (Option Value)} {x : Int64} (hd : decode M.2.1 pc = .ok (.lstore_n 3, 1)) (hn : 4 < M.2.2.1) (hp : okc a2 = true) (h : AW K M T (pc + 1) (a0 :: a1 :: a2 :: some (.long x) :: none :: r) st n R σ) : AW K M T pc (a0 :: a1 :: a2 :: o :: o2 :: r) (.long x :: st) n R σ := by
  obtain ⟨⟨p, l, e, s, m⟩, ⟨args, below, meth, c⟩, D, g, ext, base, n0, rm⟩ := K
  intro ok H locs ls hW hS hl
  exact lv_lstore_n (i := 3) ok.1 ok.2.1 hd rfl hl hn rfl (fun ls' hl' => h ok H locs ls' hW hS (by have z := lvA_set2 (i := 3) (v := .long x) (fun w _ e => by simp at e; rw [← e]; exact hp) (by simp) hl'; simpa using z))
theorem aw_lstore_4 {K : KT} {M : MT} {T : TT} {pc : Nat} {st : List Value} {n : Nat} {R : Rg} {σ : Sg} {a0 a1 a2 a3 o o2 : Option Value} {r : List (Option Value)} {x : Int64} (hd : decode M.2.1 pc = .ok (.lstore 4, 2)) (hn : 5 < M.2.2.1) (hp : okc a3 = true) (h : AW K M T (pc + 2) (a0 :: a1 :: a2 :: a3 :: some (.long x) :: none :: r) st n R σ) : AW K M T pc (a0 :: a1 :: a2 :: a3 :: o :: o2 :: r) (.long x :: st) n R σ := by
  obtain ⟨⟨p, l, e, s, m⟩, ⟨args, below, meth, c⟩, D, g, ext, base, n0, rm⟩ := K
  intro ok H locs ls hW hS hl
  exact lv_lstore (i := 4) ok.1 ok.2.1 hd hl hn rfl (fun ls' hl' => h ok H locs ls' hW hS (by have z := lvA_set2 (i := 4) (v := .long x) (fun w _ e => by simp at e; rw [← e]; exact hp) (by simp) hl'; simpa using z))
theorem aw_lstore_5 {K : KT} {M : MT} {T : TT} {pc : Nat} {st : List Value} {n : Nat} {R : Rg} {σ : Sg} {a0 a1 a2 a3 a4 o o2 : Option Value} {r : List (Option Value)} {x : Int64} (hd : decode M.2.1 pc = .ok (.lstore 5, 2)) (hn : 6 < M.2.2.1) (hp : okc a4 = true) (h : AW K M T (pc + 2) (a0 :: a1 :: a2 :: a3 :: a4 :: some (.long x) :: none :: r) st n R σ) : AW K M T pc (a0 :: a1 :: a2 :: a3 :: a4 :: o :: o2 :: r) (.long x :: st) n R σ := by
  obtain ⟨⟨p, l, e, s, m⟩, ⟨args, below, meth, c⟩, D, g, ext, base, n0, rm⟩ := K
  intro ok H locs ls hW hS hl
  exact lv_lstore (i := 5) ok.1 ok.2.1 hd hl hn rfl (fun ls' hl' => h ok H locs ls' hW hS (by have z := lvA_set2 (i := 5) (v := .long x) (fun w _ e => by simp at e; rw [← e]; exact hp) (by simp) hl'; simpa using z))
theorem aw_lstore_6 {K : KT} {M : MT} {T : TT} {pc : Nat} {st : List Value} {n : Nat} {R : Rg} {σ : Sg} {a0 a1 a2 a3 a4 a5 o o2 : Option Value} {r : List (Option Value)} {x : Int64} (hd : decode M.2.1 pc = .ok (.lstore 6, 2)) (hn : 7 < M.2.2.1) (hp : okc a5 = true) (h : AW K M T (pc + 2) (a0 :: a1 :: a2 :: a3 :: a4 :: a5 :: some (.long x) :: none :: r) st n R σ) : AW K M T pc (a0 :: a1 :: a2 :: a3 :: a4 :: a5 :: o :: o2 :: r) (.long x :: st) n R σ := by
  obtain ⟨⟨p, l, e, s, m⟩, ⟨args, below, meth, c⟩, D, g, ext, base, n0, rm⟩ := K
  intro ok H locs ls hW hS hl
  exact lv_lstore (i := 6) ok.1 ok.2.1 hd hl hn rfl (fun ls' hl' => h ok H locs ls' hW hS (by have z := lvA_set2 (i := 6) (v := .long x) (fun w _ e => by simp at e; rw [← e]; exact hp) (by simp) hl'; simpa using z))
theorem aw_lstore_7 {K : KT} {M : MT} {T : TT} {pc : Nat} {st : List Value} {n : Nat} {R : Rg} {σ : Sg} {a0 a1 a2 a3 a4 a5 a6 o o2 : Option Value} {r : List (Option Value)} {x : Int64} (hd : decode M.2.1 pc = .ok (.lstore 7, 2)) (hn : 8 < M.2.2.1) (hp : okc a6 = true) (h : AW K M T (pc + 2) (a0 :: a1 :: a2 :: a3 :: a4 :: a5 :: a6 :: some (.long x) :: none :: r) st n R σ) : AW K M T pc (a0 :: a1 :: a2 :: a3 :: a4 :: a5 :: a6 :: o :: o2 :: r) (.long x :: st) n R σ := by
  obtain ⟨⟨p, l, e, s, m⟩, ⟨args, below, meth, c⟩, D, g, ext, base, n0, rm⟩ := K
  intro ok H locs ls hW hS hl
  exact lv_lstore (i := 7) ok.1 ok.2.1 hd hl hn rfl (fun ls' hl' => h ok H locs ls' hW hS (by have z := lvA_set2 (i := 7) (v := .long x) (fun w _ e => by simp at e; rw [← e]; exact hp) (by simp) hl'; simpa using z))
theorem aw_lstore_8 {K : KT} {M : MT} {T : TT} {pc : Nat} {st : List Value} {n : Nat} {R : Rg} {σ : Sg} {a0 a1 a2 a3 a4 a5 a6 a7 o o2 : Option Value} {r : List (Option Value)} {x : Int64} (hd : decode M.2.1 pc = .ok (.lstore 8, 2)) (hn : 9 < M.2.2.1) (hp : okc a7 = true) (h : AW K M T (pc + 2) (a0 :: a1 :: a2 :: a3 :: a4 :: a5 :: a6 :: a7 :: some (.long x) :: none :: r) st n R σ) : AW K M T pc (a0 :: a1 :: a2 :: a3 :: a4 :: a5 :: a6 :: a7 :: o :: o2 :: r) (.long x :: st) n R σ := by
  obtain ⟨⟨p, l, e, s, m⟩, ⟨args, below, meth, c⟩, D, g, ext, base, n0, rm⟩ := K
  intro ok H locs ls hW hS hl
  exact lv_lstore (i := 8) ok.1 ok.2.1 hd hl hn rfl (fun ls' hl' => h ok H locs ls' hW hS (by have z := lvA_set2 (i := 8) (v := .long x) (fun w _ e => by simp at e; rw [← e]; exact hp) (by simp) hl'; simpa using z))
theorem aw_lstore_9 {K : KT} {M : MT} {T : TT} {pc : Nat} {st : List Value} {n : Nat} {R : Rg} {σ : Sg} {a0 a1 a2 a3 a4 a5 a6 a7 a8 o o2 : Option Value} {r : List (Option Value)} {x : Int64} (hd : decode M.2.1 pc = .ok (.lstore 9, 2)) (hn : 10 < M.2.2.1) (hp : okc a8 = true) (h : AW K M T (pc + 2) (a0 :: a1 :: a2 :: a3 :: a4 :: a5 :: a6 :: a7 :: a8 :: some (.long x) :: none :: r) st n R σ) : AW K M T pc (a0 :: a1 :: a2 :: a3 :: a4 :: a5 :: a6 :: a7 :: a8 :: o :: o2 :: r) (.long x :: st) n R σ := by
  obtain ⟨⟨p, l, e, s, m⟩, ⟨args, below, meth, c⟩, D, g, ext, base, n0, rm⟩ := K
  intro ok H locs ls hW hS hl
  exact lv_lstore (i := 9) ok.1 ok.2.1 hd hl hn rfl (fun ls' hl' => h ok H locs ls' hW hS (by have z := lvA_set2 (i := 9) (v := .long x) (fun w _ e => by simp at e; rw [← e]; exact hp) (by simp) hl'; simpa using z))
theorem aw_lstore_10 {K : KT} {M : MT} {T : TT} {pc : Nat} {st : List Value} {n : Nat} {R : Rg} {σ : Sg} {a0 a1 a2 a3 a4 a5 a6 a7 a8 a9 o o2 : Option Value} {r : List (Option Value)} {x : Int64} (hd : decode M.2.1 pc = .ok (.lstore 10, 2)) (hn : 11 < M.2.2.1) (hp : okc a9 = true) (h : AW K M T (pc + 2) (a0 :: a1 :: a2 :: a3 :: a4 :: a5 :: a6 :: a7 :: a8 :: a9 :: some (.long x) :: none :: r) st n R σ) : AW K M T pc (a0 :: a1 :: a2 :: a3 :: a4 :: a5 :: a6 :: a7 :: a8 :: a9 :: o :: o2 :: r) (.long x :: st) n R σ := by
  obtain ⟨⟨p, l, e, s, m⟩, ⟨args, below, meth, c⟩, D, g, ext, base, n0, rm⟩ := K
  intro ok H locs ls hW hS hl
  exact lv_lstore (i := 10) ok.1 ok.2.1 hd hl hn rfl (fun ls' hl' => h ok H locs ls' hW hS (by have z := lvA_set2 (i := 10) (v := .long x) (fun w _ e => by simp at e; rw [← e]; exact hp) (by simp) hl'; simpa using z))
theorem aw_lstore_11 {K : KT} {M : MT} {T : TT} {pc : Nat} {st : List Value} {n : Nat} {R : Rg} {σ : Sg} {a0 a1 a2 a3 a4 a5 a6 a7 a8 a9 a10 o o2 : Option Value} {r : List (Option Value)} {x : Int64} (hd : decode M.2.1 pc = .ok (.lstore 11, 2)) (hn : 12 < M.2.2.1) (hp : okc a10 = true) (h : AW K M T (pc + 2) (a0 :: a1 :: a2 :: a3 :: a4 :: a5 :: a6 :: a7 :: a8 :: a9 :: a10 :: some (.long x) :: none :: r) st n R σ) : AW K M T pc (a0 :: a1 :: a2 :: a3 :: a4 :: a5 :: a6 :: a7 :: a8 :: a9 :: a10 :: o :: o2 :: r) (.long x :: st) n R σ := by
  obtain ⟨⟨p, l, e, s, m⟩, ⟨args, below, meth, c⟩, D, g, ext, base, n0, rm⟩ := K
  intro ok H locs ls hW hS hl
  exact lv_lstore (i := 11) ok.1 ok.2.1 hd hl hn rfl (fun ls' hl' => h ok H locs ls' hW hS (by have z := lvA_set2 (i := 11) (v := .long x) (fun w _ e => by simp at e; rw [← e]; exact hp) (by simp) hl'; simpa using z))
theorem aw_lstore_12 {K : KT} {M : MT} {T : TT} {pc : Nat} {st : List Value} {n : Nat} {R : Rg} {σ : Sg} {a0 a1 a2 a3 a4 a5 a6 a7 a8 a9 a10 a11 o o2 : Option Value} {r : List (Option Value)} {x : Int64} (hd : decode M.2.1 pc = .ok (.lstore 12, 2)) (hn : 13 < M.2.2.1) (hp : okc a11 = true) (h : AW K M T (pc + 2) (a0 :: a1 :: a2 :: a3 :: a4 :: a5 :: a6 :: a7 :: a8 :: a9 :: a10 :: a11 :: some (.long x) :: none :: r) st n R σ) : AW K M T pc (a0 :: a1 :: a2 :: a3 :: a4 :: a5 :: a6 :: a7 :: a8 :: a9 :: a10 :: a11 :: o :: o2 :: r) (.long x :: st) n R σ := by
  obtain ⟨⟨p, l, e, s, m⟩, ⟨args, below, meth, c⟩, D, g, ext, base, n0, rm⟩ := K
  intro ok H locs ls hW hS hl
  exact lv_lstore (i := 12) ok.1 ok.2.1 hd hl hn rfl (fun ls' hl' => h ok H locs ls' hW hS (by have z := lvA_set2 (i := 12) (v := .long x) (fun w _ e => by simp at e; rw [← e]; exact hp) (by simp) hl'; simpa using z))
theorem aw_lstore_13 {K : KT} {M : MT} {T : TT} {pc : Nat} {st : List Value} {n : Nat} {R : Rg} {σ : Sg} {a0 a1 a2 a3 a4 a5 a6 a7 a8 a9 a10 a11 a12 o o2 : Option Value} {r : List (Option Value)} {x : Int64} (hd : decode M.2.1 pc = .ok (.lstore 13, 2)) (hn : 14 < M.2.2.1) (hp : okc a12 = true) (h : AW K M T (pc + 2) (a0 :: a1 :: a2 :: a3 :: a4 :: a5 :: a6 :: a7 :: a8 :: a9 :: a10 :: a11 :: a12 :: some (.long x) :: none :: r) st n R σ) : AW K M T pc (a0 :: a1 :: a2 :: a3 :: a4 :: a5 :: a6 :: a7 :: a8 :: a9 :: a10 :: a11 :: a12 :: o :: o2 :: r) (.long x :: st) n R σ := by
  obtain ⟨⟨p, l, e, s, m⟩, ⟨args, below, meth, c⟩, D, g, ext, base, n0, rm⟩ := K
  intro ok H locs ls hW hS hl
  exact lv_lstore (i := 13) ok.1 ok.2.1 hd hl hn rfl (fun ls' hl' => h ok H locs ls' hW hS (by have z := lvA_set2 (i := 13) (v := .long x) (fun w _ e => by simp at e; rw [← e]; exact hp) (by simp) hl'; simpa using z))
theorem aw_lstore_14 {K : KT} {M : MT} {T : TT} {pc : Nat} {st : List Value} {n : Nat} {R : Rg} {σ : Sg} {a0 a1 a2 a3 a4 a5 a6 a7 a8 a9 a10 a11 a12 a13 o o2 : Option Value} {r : List (Option Value)} {x : Int64} (hd : decode M.2.1 pc = .ok (.lstore 14, 2)) (hn : 15 < M.2.2.1) (hp : okc a13 = true) (h : AW K M T (pc + 2) (a0 :: a1 :: a2 :: a3 :: a4 :: a5 :: a6 :: a7 :: a8 :: a9 :: a10 :: a11 :: a12 :: a13 :: some (.long x) :: none :: r) st n R σ) : AW K M T pc (a0 :: a1 :: a2 :: a3 :: a4 :: a5 :: a6 :: a7 :: a8 :: a9 :: a10 :: a11 :: a12 :: a13 :: o :: o2 :: r) (.long x :: st) n R σ := by
  obtain ⟨⟨p, l, e, s, m⟩, ⟨args, below, meth, c⟩, D, g, ext, base, n0, rm⟩ := K
  intro ok H locs ls hW hS hl
  exact lv_lstore (i := 14) ok.1 ok.2.1 hd hl hn rfl (fun ls' hl' => h ok H locs ls' hW hS (by have z := lvA_set2 (i := 14) (v := .long x) (fun w _ e => by simp at e; rw [← e]; exact hp) (by simp) hl'; simpa using z))
theorem aw_lstore_15 {K : KT} {M : MT} {T : TT} {pc : Nat} {st : List Value} {n : Nat} {R : Rg} {σ : Sg} {a0 a1 a2 a3 a4 a5 a6 a7 a8 a9 a10 a11 a12 a13 a14 o o2 : Option Value} {r : List (Option Value)} {x : Int64} (hd : decode M.2.1 pc = .ok (.lstore 15, 2)) (hn : 16 < M.2.2.1) (hp : okc a14 = true) (h : AW K M T (pc + 2) (a0 :: a1 :: a2 :: a3 :: a4 :: a5 :: a6 :: a7 :: a8 :: a9 :: a10 :: a11 :: a12 :: a13 :: a14 :: some (.long x) :: none :: r) st n R σ) : AW K M T pc (a0 :: a1 :: a2 :: a3 :: a4 :: a5 :: a6 :: a7 :: a8 :: a9 :: a10 :: a11 :: a12 :: a13 :: a14 :: o :: o2 :: r) (.long x :: st) n R σ := by
  obtain ⟨⟨p, l, e, s, m⟩, ⟨args, below, meth, c⟩, D, g, ext, base, n0, rm⟩ := K
  intro ok H locs ls hW hS hl
  exact lv_lstore (i := 15) ok.1 ok.2.1 hd hl hn rfl (fun ls' hl' => h ok H locs ls' hW hS (by have z := lvA_set2 (i := 15) (v := .long x) (fun w _ e => by simp at e; rw [← e]; exact hp) (by simp) hl'; simpa using z))
theorem aw_lstore_16 {K : KT} {M : MT} {T : TT} {pc : Nat} {st : List Value} {n : Nat} {R : Rg} {σ : Sg} {a0 a1 a2 a3 a4 a5 a6 a7 a8 a9 a10 a11 a12 a13 a14 a15 o o2 : Option Value} {r : List (Option Value)} {x : Int64} (hd : decode M.2.1 pc = .ok (.lstore 16, 2)) (hn : 17 < M.2.2.1) (hp : okc a15 = true) (h : AW K M T (pc + 2) (a0 :: a1 :: a2 :: a3 :: a4 :: a5 :: a6 :: a7 :: a8 :: a9 :: a10 :: a11 :: a12 :: a13 :: a14 :: a15 :: some (.long x) :: none :: r) st n R σ) : AW K M T pc (a0 :: a1 :: a2 :: a3 :: a4 :: a5 :: a6 :: a7 :: a8 :: a9 :: a10 :: a11 :: a12 :: a13 :: a14 :: a15 :: o :: o2 :: r) (.long x :: st) n R σ := by
  obtain ⟨⟨p, l, e, s, m⟩, ⟨args, below, meth, c⟩, D, g, ext, base, n0, rm⟩ := K
  intro ok H locs ls hW hS hl
  exact lv_lstore (i := 16) ok.1 ok.2.1 hd hl hn rfl (fun ls' hl' => h ok H locs ls' hW hS (by have z := lvA_set2 (i := 16) (v := .long x) (fun w _ e => by simp at e; rw [← e]; exact hp) (by simp) hl'; simpa using z))
theorem aw_astore_0 {K : KT} {M : MT} {T : TT} {pc : Nat} {st : List Value} {n : Nat} {R : Rg} {σ : Sg} {o : Option Value} {r : List (Option Value)} {x : Nat} (hd : decode M.2.1 pc = .ok (.astore_n 0, 1)) (hn : 0 < M.2.2.1) (h : AW K M T (pc + 1) (some (.ref x) :: r) st n R σ) : AW K M T pc (o :: r) (.ref x :: st) n R σ := by
  obtain ⟨⟨p, l, e, s, m⟩, ⟨args, below, meth, c⟩, D, g, ext, base, n0, rm⟩ := K
  intro ok H locs ls hW hS hl
  exact lv_astore_n (i := 0) ok.1 ok.2.1 hd rfl hl hn rfl (fun ls' hl' => h ok H locs ls' hW hS (by have z := lvA_set1 (i := 0) (v := .ref x) (fun w q _ => absurd q (Nat.lt_irrefl 0)) (by simp) hl'; simpa using z))
theorem aw_astore_1 {K : KT} {M : MT} {T : TT} {pc : Nat} {st : List Value} {n : Nat} {R : Rg} {σ : Sg} {a0 o : Option Value} {r : List (Option Value)} {x : Nat} (hd : decode M.2.1 pc = .ok (.astore_n 1, 1)) (hn : 1 < M.2.2.1) (hp : okc a0 = true) (h : AW K M T (pc + 1) (a0 :: some (.ref x) :: r) st n R σ) : AW K M T pc (a0 :: o :: r) (.ref x :: st) n R σ := by
  obtain ⟨⟨p, l, e, s, m⟩, ⟨args, below, meth, c⟩, D, g, ext, base, n0, rm⟩ := K
  intro ok H locs ls hW hS hl
  exact lv_astore_n (i := 1) ok.1 ok.2.1 hd rfl hl hn rfl (fun ls' hl' => h ok H locs ls' hW hS (by have z := lvA_set1 (i := 1) (v := .ref x) (fun w _ e => by simp at e; rw [← e]; exact hp) (by simp) hl'; simpa using z))
theorem aw_astore_2 {K : KT} {M : MT} {T : TT} {pc : Nat} {st : List Value} {n : Nat} {R : Rg} {σ : Sg} {a0 a1 o : Option Value} {r : List (Option Value)} {x : Nat} (hd : decode M.2.1 pc = .ok (.astore_n 2, 1)) (hn : 2 < M.2.2.1) (hp : okc a1 = true) (h : AW K M T (pc + 1) (a0 :: a1 :: some (.ref x) :: r) st n R σ) : AW K M T pc (a0 :: a1 :: o :: r) (.ref x :: st) n R σ := by
  obtain ⟨⟨p, l, e, s, m⟩, ⟨args, below, meth, c⟩, D, g, ext, base, n0, rm⟩ := K
  intro ok H locs ls hW hS hl
  exact lv_astore_n (i := 2) ok.1 ok.2.1 hd rfl hl hn rfl (fun ls' hl' => h ok H locs ls' hW hS (by have z := lvA_set1 (i := 2) (v := .ref x) (fun w _ e => by simp at e; rw [← e]; exact hp) (by simp) hl'; simpa using z))
theorem aw_astore_3 {K : KT} {M : MT} {T : TT} {pc : Nat} {st : List Value} {n : Nat} {R : Rg} {σ : Sg} {a0 a1 a2 o : Option Value} {r : List (Option Value)} {x : Nat} (hd : decode M.2.1 pc = .ok (.astore_n 3, 1)) (hn : 3 < M.2.2.1) (hp : okc a2 = true) (h : AW K M T (pc + 1) (a0 :: a1 :: a2 :: some (.ref x) :: r) st n R σ) : AW K M T pc (a0 :: a1 :: a2 :: o :: r) (.ref x :: st) n R σ := by
  obtain ⟨⟨p, l, e, s, m⟩, ⟨args, below, meth, c⟩, D, g, ext, base, n0, rm⟩ := K
  intro ok H locs ls hW hS hl
  exact lv_astore_n (i := 3) ok.1 ok.2.1 hd rfl hl hn rfl (fun ls' hl' => h ok H locs ls' hW hS (by have z := lvA_set1 (i := 3) (v := .ref x) (fun w _ e => by simp at e; rw [← e]; exact hp) (by simp) hl'; simpa using z))
theorem aw_astore_4 {K : KT} {M : MT} {T : TT} {pc : Nat} {st : List Value} {n : Nat} {R : Rg} {σ : Sg} {a0 a1 a2 a3 o : Option Value} {r : List (Option Value)} {x : Nat} (hd : decode M.2.1 pc = .ok (.astore 4, 2)) (hn : 4 < M.2.2.1) (hp : okc a3 = true) (h : AW K M T (pc + 2) (a0 :: a1 :: a2 :: a3 :: some (.ref x) :: r) st n R σ) : AW K M T pc (a0 :: a1 :: a2 :: a3 :: o :: r) (.ref x :: st) n R σ := by
  obtain ⟨⟨p, l, e, s, m⟩, ⟨args, below, meth, c⟩, D, g, ext, base, n0, rm⟩ := K
  intro ok H locs ls hW hS hl
  exact lv_astore (i := 4) ok.1 ok.2.1 hd hl hn rfl (fun ls' hl' => h ok H locs ls' hW hS (by have z := lvA_set1 (i := 4) (v := .ref x) (fun w _ e => by simp at e; rw [← e]; exact hp) (by simp) hl'; simpa using z))
theorem aw_astore_5 {K : KT} {M : MT} {T : TT} {pc : Nat} {st : List Value} {n : Nat} {R : Rg} {σ : Sg} {a0 a1 a2 a3 a4 o : Option Value} {r : List (Option Value)} {x : Nat} (hd : decode M.2.1 pc = .ok (.astore 5, 2)) (hn : 5 < M.2.2.1) (hp : okc a4 = true) (h : AW K M T (pc + 2) (a0 :: a1 :: a2 :: a3 :: a4 :: some (.ref x) :: r) st n R σ) : AW K M T pc (a0 :: a1 :: a2 :: a3 :: a4 :: o :: r) (.ref x :: st) n R σ := by
  obtain ⟨⟨p, l, e, s, m⟩, ⟨args, below, meth, c⟩, D, g, ext, base, n0, rm⟩ := K
  intro ok H locs ls hW hS hl
  exact lv_astore (i := 5) ok.1 ok.2.1 hd hl hn rfl (fun ls' hl' => h ok H locs ls' hW hS (by have z := lvA_set1 (i := 5) (v := .ref x) (fun w _ e => by simp at e; rw [← e]; exact hp) (by simp) hl'; simpa using z))
theorem aw_astore_6 {K : KT} {M : MT} {T : TT} {pc : Nat} {st : List Value} {n : Nat} {R : Rg} {σ : Sg} {a0 a1 a2 a3 a4 a5 o : Option Value} {r : List (Option Value)} {x : Nat} (hd : decode M.2.1 pc = .ok (.astore 6, 2)) (hn : 6 < M.2.2.1) (hp : okc a5 = true) (h : AW K M T (pc + 2) (a0 :: a1 :: a2 :: a3 :: a4 :: a5 :: some (.ref x) :: r) st n R σ) : AW K M T pc (a0 :: a1 :: a2 :: a3 :: a4 :: a5 :: o :: r) (.ref x :: st) n R σ := by
  obtain ⟨⟨p, l, e, s, m⟩, ⟨args, below, meth, c⟩, D, g, ext, base, n0, rm⟩ := K
  intro ok H locs ls hW hS hl
  exact lv_astore (i := 6) ok.1 ok.2.1 hd hl hn rfl (fun ls' hl' => h ok H locs ls' hW hS (by have z := lvA_set1 (i := 6) (v := .ref x) (fun w _ e => by simp at e; rw [← e]; exact hp) (by simp) hl'; simpa using z))
theorem aw_astore_7 {K : KT} {M : MT} {T : TT} {pc : Nat} {st : List Value} {n : Nat} {R : Rg} {σ : Sg} {a0 a1 a2 a3 a4 a5 a6 o : Option Value} {r : List (Option Value)} {x : Nat} (hd : decode M.2.1 pc = .ok (.astore 7, 2)) (hn : 7 < M.2.2.1) (hp : okc a6 = true) (h : AW K M T (pc + 2) (a0 :: a1 :: a2 :: a3 :: a4 :: a5 :: a6 :: some (.ref x) :: r) st n R σ) : AW K M T pc (a0 :: a1 :: a2 :: a3 :: a4 :: a5 :: a6 :: o :: r) (.ref x :: st) n R σ := by
  obtain ⟨⟨p, l, e, s, m⟩, ⟨args, below, meth, c⟩, D, g, ext, base, n0, rm⟩ := K
  intro ok H locs ls hW hS hl
  exact lv_astore (i := 7) ok.1 ok.2.1 hd hl hn rfl (fun ls' hl' => h ok H locs ls' hW hS (by have z := lvA_set1 (i := 7) (v := .ref x) (fun w _ e => by simp at e; rw [← e]; exact hp) (by simp) hl'; simpa using z))
theorem aw_astore_8 {K : KT} {M : MT} {T : TT} {pc : Nat} {st : List Value} {n : Nat} {R : Rg} {σ : Sg} {a0 a1 a2 a3 a4 a5 a6 a7 o : Option Value} {r : List (Option Value)} {x : Nat} (hd : decode M.2.1 pc = .ok (.astore 8, 2)) (hn : 8 < M.2.2.1) (hp : okc a7 = true) (h : AW K M T (pc + 2) (a0 :: a1 :: a2 :: a3 :: a4 :: a5 :: a6 :: a7 :: some (.ref x) :: r) st n R σ) : AW K M T pc (a0 :: a1 :: a2 :: a3 :: a4 :: a5 :: a6 :: a7 :: o :: r) (.ref x :: st) n R σ := by
  obtain ⟨⟨p, l, e, s, m⟩, ⟨args, below, meth, c⟩, D, g, ext, base, n0, rm⟩ := K
  intro ok H locs ls hW hS hl
  exact lv_astore (i := 8) ok.1 ok.2.1 hd hl hn rfl (fun ls' hl' => h ok H locs ls' hW hS (by have z := lvA_set1 (i := 8) (v := .ref x) (fun w _ e => by simp at e; rw [← e]; exact hp) (by simp) hl'; simpa using z))
theorem aw_astore_9 {K : KT} {M : MT} {T : TT} {pc : Nat} {st : List Value} {n : Nat} {R : Rg} {σ : Sg} {a0 a1 a2 a3 a4 a5 a6 a7 a8 o : Option Value} {r : List (Option Value)} {x : Nat} (hd : decode M.2.1 pc = .ok (.astore 9, 2)) (hn : 9 < M.2.2.1) (hp : okc a8 = true) (h : AW K M T (pc + 2) (a0 :: a1 :: a2 :: a3 :: a4 :: a5 :: a6 :: a7 :: a8 :: some (.ref x) :: r) st n R σ) : AW K M T pc (a0 :: a1 :: a2 :: a3 :: a4 :: a5 :: a6 :: a7 :: a8 :: o :: r) (.ref x :: st) n R σ := by
  obtain ⟨⟨p, l, e, s, m⟩, ⟨args, below, meth, c⟩, D, g, ext, base, n0, rm⟩ := K
  intro ok H locs ls hW hS hl
  exact lv_astore (i := 9) ok.1 ok.2.1 hd hl hn rfl (fun ls' hl' => h ok H locs ls' hW hS (by have z := lvA_set1 (i := 9) (v := .ref x) (fun w _ e => by simp at e; rw [← e]; exact hp) (by simp) hl'; simpa using z))
theorem aw_astore_10 {K : KT} {M : MT} {T : TT} {pc : Nat} {st : List Value} {n : Nat} {R : Rg} {σ : Sg} {a0 a1 a2 a3 a4 a5 a6 a7 a8 a9 o : Option Value} {r : List (Option Value)} {x : Nat} (hd : decode M.2.1 pc = .ok (.astore 10, 2)) (hn : 10 < M.2.2.1) (hp : okc a9 = true) (h : AW K M T (pc + 2) (a0 :: a1 :: a2 :: a3 :: a4 :: a5 :: a6 :: a7 :: a8 :: a9 :: some (.ref x) :: r) st n R σ) : AW K M T pc (a0 :: a1 :: a2 :: a3 :: a4 :: a5 :: a6 :: a7 :: a8 :: a9 :: o :: r) (.ref x :: st) n R σ := by
  obtain ⟨⟨p, l, e, s, m⟩, ⟨args, below, meth, c⟩, D, g, ext, base, n0, rm⟩ := K
  intro ok H locs ls hW hS hl
  exact lv_astore (i := 10) ok.1 ok.2.1 hd hl hn rfl (fun ls' hl' => h ok H locs ls' hW hS (by have z := lvA_set1 (i := 10) (v := .ref x) (fun w _ e => by simp at e; rw [← e]; exact hp) (by simp) hl'; simpa using z))
theorem aw_astore_11 {K : KT} {M : MT} {T : TT} {pc : Nat} {st : List Value} {n : Nat} {R : Rg} {σ : Sg} {a0 a1 a2 a3 a4 a5 a6 a7 a8 a9 a10 o : Option Value} {r : List (Option Value)} {x : Nat} (hd : decode M.2.1 pc = .ok (.astore 11, 2)) (hn : 11 < M.2.2.1) (hp : okc a10 = true) (h : AW K M T (pc + 2) (a0 :: a1 :: a2 :: a3 :: a4 :: a5 :: a6 :: a7 :: a8 :: a9 :: a10 :: some (.ref x) :: r) st n R σ) : AW K M T pc (a0 :: a1 :: a2 :: a3 :: a4 :: a5 :: a6 :: a7 :: a8 :: a9 :: a10 :: o :: r) (.ref x :: st) n R σ := by
  obtain ⟨⟨p, l, e, s, m⟩, ⟨args, below, meth, c⟩, D, g, ext, base, n0, rm⟩ := K
  intro ok H locs ls hW hS hl
  exact lv_astore (i := 11) ok.1 ok.2.1 hd hl hn rfl (fun ls' hl' => h ok H locs ls' hW hS (by have z := lvA_set1 (i := 11) (v := .ref x) (fun w _ e => by simp at e; rw [← e]; exact hp) (by simp) hl'; simpa using z))
theorem aw_astore_12 {K : KT} {M : MT} {T : TT} {pc : Nat} {st : List Value} {n : Nat} {R : Rg} {σ : Sg} {a0 a1 a2 a3 a4 a5 a6 a7 a8 a9 a10 a11 o : Option Value} {r : List (Option Value)} {x : Nat} (hd : decode M.2.1 pc = .ok (.astore 12, 2)) (hn : 12 < M.2.2.1) (hp : okc a11 = true) (h : AW K M T (pc + 2) (a0 :: a1 :: a2 :: a3 :: a4 :: a5 :: a6 :: a7 :: a8 :: a9 :: a10 :: a11 :: some (.ref x) :: r) st n R σ) : AW K M T pc (a0 :: a1 :: a2 :: a3 :: a4 :: a5 :: a6 :: a7 :: a8 :: a9 :: a10 :: a11 :: o :: r) (.ref x :: st) n R σ := by
  obtain ⟨⟨p, l, e, s, m⟩, ⟨args, below, meth, c⟩, D, g, ext, base, n0, rm⟩ := K
  intro ok H locs ls hW hS hl
  exact lv_astore (i := 12) ok.1 ok.2.1 hd hl hn rfl (fun ls' hl' => h ok H locs ls' hW hS (by have z := lvA_set1 (i := 12) (v := .ref x) (fun w _ e => by simp at e; rw [← e]; exact hp) (by simp) hl'; simpa using z))
theorem aw_astore_13 {K : KT} {M : MT} {T : TT} {pc : Nat} {st : List Value} {n : Nat} {R : Rg} {σ : Sg} {a0 a1 a2 a3 a4 a5 a6 a7 a8 a9 a10 a11 a12 o : Option Value} {r : List (Option Value)} {x : Nat} (hd : decode M.2.1 pc = .ok (.astore 13, 2)) (hn : 13 < M.2.2.1) (hp : okc a12 = true) (h : AW K M T (pc + 2) (a0 :: a1 :: a2 :: a3 :: a4 :: a5 :: a6 :: a7 :: a8 :: a9 :: a10 :: a11 :: a12 :: some (.ref x) :: r) st n R σ) : AW K M T pc (a0 :: a1 :: a2 :: a3 :: a4 :: a5 :: a6 :: a7 :: a8 :: a9 :: a10 :: a11 :: a12 :: o :: r) (.ref x :: st) n R σ := by
  obtain ⟨⟨p, l, e, s, m⟩, ⟨args, below, meth, c⟩, D, g, ext, base, n0, rm⟩ := K
  intro ok H locs ls hW hS hl
  exact lv_astore (i := 13) ok.1 ok.2.1 hd hl hn rfl (fun ls' hl' => h ok H locs ls' hW hS (by have z := lvA_set1 (i := 13) (v := .ref x) (fun w _ e => by simp at e; rw [← e]; exact hp) (by simp) hl'; simpa using z))
theorem aw_astore_14 {K : KT} {M : MT} {T : TT} {pc : Nat} {st : List Value} {n : Nat} {R : Rg} {σ : Sg} {a0 a1 a2 a3 a4 a5 a6 a7 a8 a9 a10 a11 a12 a13 o : Option Value} {r : List (Option Value)} {x : Nat} (hd : decode M.2.1 pc = .ok (.astore 14, 2)) (hn : 14 < M.2.2.1) (hp : okc a13 = true) (h : AW K M T (pc + 2) (a0 :: a1 :: a2 :: a3 :: a4 :: a5 :: a6 :: a7 :: a8 :: a9 :: a10 :: a11 :: a12 :: a13 :: some (.ref x) :: r) st n R σ) : AW K M T pc (a0 :: a1 :: a2 :: a3 :: a4 :: a5 :: a6 :: a7 :: a8 :: a9 :: a10 :: a11 :: a12 :: a13 :: o :: r) (.ref x :: st) n R σ := by
  obtain ⟨⟨p, l, e, s, m⟩, ⟨args, below, meth, c⟩, D, g, ext, base, n0, rm⟩ := K
  intro ok H locs ls hW hS hl
  exact lv_astore (i := 14) ok.1 ok.2.1 hd hl hn rfl (fun ls' hl' => h ok H locs ls' hW hS (by have z := lvA_set1 (i := 14) (v := .ref x) (fun w _ e => by simp at e; rw [← e]; exact hp) (by simp) hl'; simpa using z))
theorem aw_astore_15 {K : KT} {M : MT} {T : TT} {pc : Nat} {st : List Value} {n : Nat} {R : Rg} {σ : Sg} {a0 a1 a2 a3 a4 a5 a6 a7 a8 a9 a10 a11 a12 a13 a14 o : Option Value} {r : List (Option Value)} {x : Nat} (hd : decode M.2.1 pc = .ok (.astore 15, 2)) (hn : 15 < M.2.2.1) (hp : okc a14 = true) (h : AW K M T (pc + 2) (a0 :: a1 :: a2 :: a3 :: a4 :: a5 :: a6 :: a7 :: a8 :: a9 :: a10 :: a11 :: a12 :: a13 :: a14 :: some (.ref x) :: r) st n R σ) : AW K M T pc (a0 :: a1 :: a2 :: a3 :: a4 :: a5 :: a6 :: a7 :: a8 :: a9 :: a10 :: a11 :: a12 :: a13 :: a14 :: o :: r) (.ref x :: st) n R σ := by
  obtain ⟨⟨p, l, e, s, m⟩, ⟨args, below, meth, c⟩, D, g, ext, base, n0, rm⟩ := K
  intro ok H locs ls hW hS hl
  exact lv_astore (i := 15) ok.1 ok.2.1 hd hl hn rfl (fun ls' hl' => h ok H locs ls' hW hS (by have z := lvA_set1 (i := 15) (v := .ref x) (fun w _ e => by simp at e; rw [← e]; exact hp) (by simp) hl'; simpa using z))
theorem aw_astore_16 {K : KT} {M : MT} {T : TT} {pc : Nat} {st : List Value} {n : Nat} {R : Rg} {σ : Sg} {a0 a1 a2 a3 a4 a5 a6 a7 a8 a9 a10 a11 a12 a13 a14 a15 o : Option Value} {r : List (Option Value)} {x : Nat} (hd : decode M.2.1 pc = .ok (.astore 16, 2)) (hn : 16 < M.2.2.1) (hp : okc a15 = true) (h : AW K M T (pc + 2) (a0 :: a1 :: a2 :: a3 :: a4 :: a5 :: a6 :: a7 :: a8 :: a9 :: a10 :: a11 :: a12 :: a13 :: a14 :: a15 :: some (.ref x) :: r) st n R σ) : AW K M T pc (a0 :: a1 :: a2 :: a3 :: a4 :: a5 :: a6 :: a7 :: a8 :: a9 :: a10 :: a11 :: a12 :: a13 :: a14 :: a15 :: o :: r) (.ref x :: st) n R σ := by
  obtain ⟨⟨p, l, e, s, m⟩, ⟨args, below, meth, c⟩, D, g, ext, base, n0, rm⟩ := K
  intro ok H locs ls hW hS hl
  exact lv_astore (i := 16) ok.1 ok.2.1 hd hl hn rfl (fun ls' hl' => h ok H locs ls' hW hS (by have z := lvA_set1 (i := 16) (v := .ref x) (fun w _ e => by simp at e; rw [← e]; exact hp) (by simp) hl'; simpa using z))
theorem aw_iinc_0 {K : KT} {M : MT} {T : TT} {pc : Nat} {st : List Value} {n : Nat} {R : Rg} {σ : Sg} {r : List (Option Value)} {x v : Int32} {k : Int} (hd : decode M.2.1 pc = .ok (.iinc 0 k, 3)) (hn : 0 < M.2.2.1) (hv : x + Int32.ofInt k = v) (h : AW K M T (pc + 3) (some (.int v) :: r) st n R σ) : AW K M T pc (some (.int x) :: r) st n R σ := by
  obtain ⟨⟨p, l, e, s, m⟩, ⟨args, below, meth, c⟩, D, g, ext, base, n0, rm⟩ := K
  intro ok H locs ls hW hS hl
  obtain ⟨z, hz⟩ : ∃ z : Nat, (lvA (base, ext) 0 (some (.int x) :: r))[z]? = some (0, .int x) := List.getElem?_of_mem (lvA_mem.mpr ⟨0, .int x, by simp, by simp [cv]⟩)
  exact lv_iinc ok.1 ok.2.1 hd hl hz hv hn rfl (fun ls' hl' => h ok H locs ls' hW hS (by have z := lvA_set1 (v := .int v) (fun w q _ => absurd q (Nat.lt_irrefl 0)) (by simp) hl'; simpa using z))
theorem aw_iinc_1 {K : KT} {M : MT} {T : TT} {pc : Nat} {st : List Value} {n : Nat} {R : Rg} {σ : Sg} {a0 : Option Value} {r : List (Option Value)} {x v : Int32} {k : Int} (hd : decode M.2.1 pc = .ok (.iinc 1 k, 3)) (hn : 1 < M.2.2.1) (hp : okc a0 = true) (hv : x + Int32.ofInt k = v) (h : AW K M T (pc + 3) (a0 :: some (.int v) :: r) st n R σ) : AW K M T pc (a0 :: some (.int x) :: r) st n R σ := by
  obtain ⟨⟨p, l, e, s, m⟩, ⟨args, below, meth, c⟩, D, g, ext, base, n0, rm⟩ := K
  intro ok H locs ls hW hS hl
  obtain ⟨z, hz⟩ : ∃ z : Nat, (lvA (base, ext) 0 (a0 :: some (.int x) :: r))[z]? = some (1, .int x) := List.getElem?_of_mem (lvA_mem.mpr ⟨1, .int x, by simp, by simp [cv]⟩)
  exact lv_iinc ok.1 ok.2.1 hd hl hz hv hn rfl (fun ls' hl' => h ok H locs ls' hW hS (by have z := lvA_set1 (v := .int v) (fun w _ e => by simp at e; rw [← e]; exact hp) (by simp) hl'; simpa using z))
theorem aw_iinc_2 {K : KT} {M : MT} {T : TT} {pc : Nat} {st : List Value} {n : Nat} {R : Rg} {σ : Sg} {a0 a1 : Option Value} {r : List (Option Value)} {x v : Int32} {k : Int} (hd : decode M.2.1 pc = .ok (.iinc 2 k, 3)) (hn : 2 < M.2.2.1) (hp : okc a1 = true) (hv : x + Int32.ofInt k = v) (h : AW K M T (pc + 3) (a0 :: a1 :: some (.int v) :: r) st n R σ) : AW K M T pc (a0 :: a1 :: some (.int x) :: r) st n R σ := by
  obtain ⟨⟨p, l, e, s, m⟩, ⟨args, below, meth, c⟩, D, g, ext, base, n0, rm⟩ := K
  intro ok H locs ls hW hS hl
  obtain ⟨z, hz⟩ : ∃ z : Nat, (lvA (base, ext) 0 (a0 :: a1 :: some (.int x) :: r))[z]? = some (2, .int x) := List.getElem?_of_mem (lvA_mem.mpr ⟨2, .int x, by simp, by simp [cv]⟩)
  exact lv_iinc ok.1 ok.2.1 hd hl hz hv hn rfl (fun ls' hl' => h ok H locs ls' hW hS (by have z := lvA_set1 (v := .int v) (fun w _ e => by simp at e; rw [← e]; exact hp) (by simp) hl'; simpa using z))
theorem aw_iinc_3 {K : KT} {M : MT} {T : TT} {pc : Nat} {st : List Value} {n : Nat} {R : Rg} {σ : Sg} {a0 a1 a2 : Option Value} {r : List (Option Value)} {x v : Int32} {k : Int} (hd : decode M.2.1 pc = .ok (.iinc 3 k, 3)) (hn : 3 < M.2.2.1) (hp : okc a2 = true) (hv : x + Int32.ofInt k = v) (h : AW K M T (pc + 3) (a0 :: a1 :: a2 :: some (.int v) :: r) st n R σ) : AW K M T pc (a0 :: a1 :: a2 :: some (.int x) :: r) st n R σ := by
  obtain ⟨⟨p, l, e, s, m⟩, ⟨args, below, meth, c⟩, D, g, ext, base, n0, rm⟩ := K
  intro ok H locs ls hW hS hl
  obtain ⟨z, hz⟩ : ∃ z : Nat, (lvA (base, ext) 0 (a0 :: a1 :: a2 :: some (.int x) :: r))[z]? = some (3, .int x) := List.getElem?_of_mem (lvA_mem.mpr ⟨3, .int x, by simp, by simp [cv]⟩)
  exact lv_iinc ok.1 ok.2.1 hd hl hz hv hn rfl (fun ls' hl' => h ok H locs ls' hW hS (by have z := lvA_set1 (v := .int v) (fun w _ e => by simp at e; rw [← e]; exact hp) (by simp) hl'; simpa using z))
theorem aw_iinc_4 {K : KT} {M : MT} {T : TT} {pc : Nat} {st : List Value} {n : Nat} {R : Rg} {σ : Sg} {a0 a1 a2 a3 : Option Value} {r : List (Option Value)} {x v : Int32} {k : Int} (hd : decode M.2.1 pc = .ok (.iinc 4 k, 3)) (hn : 4 < M.2.2.1) (hp : okc a3 = true) (hv : x + Int32.ofInt k = v) (h : AW K M T (pc + 3) (a0 :: a1 :: a2 :: a3 :: some (.int v) :: r) st n R σ) : AW K M T pc (a0 :: a1 :: a2 :: a3 :: some (.int x) :: r) st n R σ := by
  obtain ⟨⟨p, l, e, s, m⟩, ⟨args, below, meth, c⟩, D, g, ext, base, n0, rm⟩ := K
  intro ok H locs ls hW hS hl
  obtain ⟨z, hz⟩ : ∃ z : Nat, (lvA (base, ext) 0 (a0 :: a1 :: a2 :: a3 :: some (.int x) :: r))[z]? = some (4, .int x) := List.getElem?_of_mem (lvA_mem.mpr ⟨4, .int x, by simp, by simp [cv]⟩)
  exact lv_iinc ok.1 ok.2.1 hd hl hz hv hn rfl (fun ls' hl' => h ok H locs ls' hW hS (by have z := lvA_set1 (v := .int v) (fun w _ e => by simp at e; rw [← e]; exact hp) (by simp) hl'; simpa using z))
theorem aw_iinc_5 {K : KT} {M : MT} {T : TT} {pc : Nat} {st : List Value} {n : Nat} {R : Rg} {σ : Sg} {a0 a1 a2 a3 a4 : Option Value} {r : List (Option Value)} {x v : Int32} {k : Int} (hd : decode M.2.1 pc = .ok (.iinc 5 k, 3)) (hn : 5 < M.2.2.1) (hp : okc a4 = true) (hv : x + Int32.ofInt k = v) (h : AW K M T (pc + 3) (a0 :: a1 :: a2 :: a3 :: a4 :: some (.int v) :: r) st n R σ) : AW K M T pc (a0 :: a1 :: a2 :: a3 :: a4 :: some (.int x) :: r) st n R σ := by
  obtain ⟨⟨p, l, e, s, m⟩, ⟨args, below, meth, c⟩, D, g, ext, base, n0, rm⟩ := K
  intro ok H locs ls hW hS hl
  obtain ⟨z, hz⟩ : ∃ z : Nat, (lvA (base, ext) 0 (a0 :: a1 :: a2 :: a3 :: a4 :: some (.int x) :: r))[z]? = some (5, .int x) := List.getElem?_of_mem (lvA_mem.mpr ⟨5, .int x, by simp, by simp [cv]⟩)
  exact lv_iinc ok.1 ok.2.1 hd hl hz hv hn rfl (fun ls' hl' => h ok H locs ls' hW hS (by have z := lvA_set1 (v := .int v) (fun w _ e => by simp at e; rw [← e]; exact hp) (by simp) hl'; simpa using z))
theorem aw_iinc_6 {K : KT} {M : MT} {T : TT} {pc : Nat} {st : List Value} {n : Nat} {R : Rg} {σ : Sg} {a0 a1 a2 a3 a4 a5 : Option Value} {r : List (Option Value)} {x v : Int32} {k : Int} (hd : decode M.2.1 pc = .ok (.iinc 6 k, 3)) (hn : 6 < M.2.2.1) (hp : okc a5 = true) (hv : x + Int32.ofInt k = v) (h : AW K M T (pc + 3) (a0 :: a1 :: a2 :: a3 :: a4 :: a5 :: some (.int v) :: r) st n R σ) : AW K M T pc (a0 :: a1 :: a2 :: a3 :: a4 :: a5 :: some (.int x) :: r) st n R σ := by
  obtain ⟨⟨p, l, e, s, m⟩, ⟨args, below, meth, c⟩, D, g, ext, base, n0, rm⟩ := K
  intro ok H locs ls hW hS hl
  obtain ⟨z, hz⟩ : ∃ z : Nat, (lvA (base, ext) 0 (a0 :: a1 :: a2 :: a3 :: a4 :: a5 :: some (.int x) :: r))[z]? = some (6, .int x) := List.getElem?_of_mem (lvA_mem.mpr ⟨6, .int x, by simp, by simp [cv]⟩)
  exact lv_iinc ok.1 ok.2.1 hd hl hz hv hn rfl (fun ls' hl' => h ok H locs ls' hW hS (by have z := lvA_set1 (v := .int v) (fun w _ e => by simp at e; rw [← e]; exact hp) (by simp) hl'; simpa using z))
theorem aw_iinc_7 {K : KT} {M : MT} {T : TT} {pc : Nat} {st : List Value} {n : Nat} {R : Rg} {σ : Sg} {a0 a1 a2 a3 a4 a5 a6 : Option Value} {r : List (Option Value)} {x v : Int32} {k : Int} (hd : decode M.2.1 pc = .ok (.iinc 7 k, 3)) (hn : 7 < M.2.2.1) (hp : okc a6 = true) (hv : x + Int32.ofInt k = v) (h : AW K M T (pc + 3) (a0 :: a1 :: a2 :: a3 :: a4 :: a5 :: a6 :: some (.int v) :: r) st n R σ) : AW K M T pc (a0 :: a1 :: a2 :: a3 :: a4 :: a5 :: a6 :: some (.int x) :: r) st n R σ := by
  obtain ⟨⟨p, l, e, s, m⟩, ⟨args, below, meth, c⟩, D, g, ext, base, n0, rm⟩ := K
  intro ok H locs ls hW hS hl
  obtain ⟨z, hz⟩ : ∃ z : Nat, (lvA (base, ext) 0 (a0 :: a1 :: a2 :: a3 :: a4 :: a5 :: a6 :: some (.int x) :: r))[z]? = some (7, .int x) := List.getElem?_of_mem (lvA_mem.mpr ⟨7, .int x, by simp, by simp [cv]⟩)
  exact lv_iinc ok.1 ok.2.1 hd hl hz hv hn rfl (fun ls' hl' => h ok H locs ls' hW hS (by have z := lvA_set1 (v := .int v) (fun w _ e => by simp at e; rw [← e]; exact hp) (by simp) hl'; simpa using z))
theorem aw_iinc_8 {K : KT} {M : MT} {T : TT} {pc : Nat} {st : List Value} {n : Nat} {R : Rg} {σ : Sg} {a0 a1 a2 a3 a4 a5 a6 a7 : Option Value} {r : List (Option Value)} {x v : Int32} {k : Int} (hd : decode M.2.1 pc = .ok (.iinc 8 k, 3)) (hn : 8 < M.2.2.1) (hp : okc a7 = true) (hv : x + Int32.ofInt k = v) (h : AW K M T (pc + 3) (a0 :: a1 :: a2 :: a3 :: a4 :: a5 :: a6 :: a7 :: some (.int v) :: r) st n R σ) : AW K M T pc (a0 :: a1 :: a2 :: a3 :: a4 :: a5 :: a6 :: a7 :: some (.int x) :: r) st n R σ := by
  obtain ⟨⟨p, l, e, s, m⟩, ⟨args, below, meth, c⟩, D, g, ext, base, n0, rm⟩ := K
  intro ok H locs ls hW hS hl
  obtain ⟨z, hz⟩ : ∃ z : Nat, (lvA (base, ext) 0 (a0 :: a1 :: a2 :: a3 :: a4 :: a5 :: a6 :: a7 :: some (.int x) :: r))[z]? = some (8, .int x) := List.getElem?_of_mem (lvA_mem.mpr ⟨8, .int x, by simp, by simp [cv]⟩)
  exact lv_iinc ok.1 ok.2.1 hd hl hz hv hn rfl (fun ls' hl' => h ok H locs ls' hW hS (by have z := lvA_set1 (v := .int v) (fun w _ e => by simp at e; rw [← e]; exact hp) (by simp) hl'; simpa using z))
theorem aw_iinc_9 {K : KT} {M : MT} {T : TT} {pc : Nat} {st : List Value} {n : Nat} {R : Rg} {σ : Sg} {a0 a1 a2 a3 a4 a5 a6 a7 a8 : Option Value} {r : List (Option Value)} {x v : Int32} {k : Int} (hd : decode M.2.1 pc = .ok (.iinc 9 k, 3)) (hn : 9 < M.2.2.1) (hp : okc a8 = true) (hv : x + Int32.ofInt k = v) (h : AW K M T (pc + 3) (a0 :: a1 :: a2 :: a3 :: a4 :: a5 :: a6 :: a7 :: a8 :: some (.int v) :: r) st n R σ) : AW K M T pc (a0 :: a1 :: a2 :: a3 :: a4 :: a5 :: a6 :: a7 :: a8 :: some (.int x) :: r) st n R σ := by
  obtain ⟨⟨p, l, e, s, m⟩, ⟨args, below, meth, c⟩, D, g, ext, base, n0, rm⟩ := K
  intro ok H locs ls hW hS hl
  obtain ⟨z, hz⟩ : ∃ z : Nat, (lvA (base, ext) 0 (a0 :: a1 :: a2 :: a3 :: a4 :: a5 :: a6 :: a7 :: a8 :: some (.int x) :: r))[z]? = some (9, .int x) := List.getElem?_of_mem (lvA_mem.mpr ⟨9, .int x, by simp, by simp [cv]⟩)
  exact lv_iinc ok.1 ok.2.1 hd hl hz hv hn rfl (fun ls' hl' => h ok H locs ls' hW hS (by have z := lvA_set1 (v := .int v) (fun w _ e => by simp at e; rw [← e]; exact hp) (by simp) hl'; simpa using z))
theorem aw_iinc_10 {K : KT} {M : MT} {T : TT} {pc : Nat} {st : List Value} {n : Nat} {R : Rg} {σ : Sg} {a0 a1 a2 a3 a4 a5 a6 a7 a8 a9 : Option Value} {r : List (Option Value)} {x v : Int32} {k : Int} (hd : decode M.2.1 pc = .ok (.iinc 10 k, 3)) (hn : 10 < M.2.2.1) (hp : okc a9 = true) (hv : x + Int32.ofInt k = v) (h : AW K M T (pc + 3) (a0 :: a1 :: a2 :: a3 :: a4 :: a5 :: a6 :: a7 :: a8 :: a9 :: some (.int v) :: r) st n R σ) : AW K M T pc (a0 :: a1 :: a2 :: a3 :: a4 :: a5 :: a6 :: a7 :: a8 :: a9 :: some (.int x) :: r) st n R σ := by
  obtain ⟨⟨p, l, e, s, m⟩, ⟨args, below, meth, c⟩, D, g, ext, base, n0, rm⟩ := K
  intro ok H locs ls hW hS hl
  obtain ⟨z, hz⟩ : ∃ z : Nat, (lvA (base, ext) 0 (a0 :: a1 :: a2 :: a3 :: a4 :: a5 :: a6 :: a7 :: a8 :: a9 :: some (.int x) :: r))[z]? = some (10, .int x) := List.getElem?_of_mem (lvA_mem.mpr ⟨10, .int x, by simp, by simp [cv]⟩)
  exact lv_iinc ok.1 ok.2.1 hd hl hz hv hn rfl (fun ls' hl' => h ok H locs ls' hW hS (by have z := lvA_set1 (v := .int v) (fun w _ e => by simp at e; rw [← e]; exact hp) (by simp) hl'; simpa using z))
theorem aw_iinc_11 {K : KT} {M : MT} {T : TT} {pc : Nat} {st : List Value} {n : Nat} {R : Rg} {σ : Sg} {a0 a1 a2 a3 a4 a5 a6 a7 a8 a9 a10 : Option Value} {r : List (Option Value)} {x v : Int32} {k : Int} (hd : decode M.2.1 pc = .ok (.iinc 11 k, 3)) (hn : 11 < M.2.2.1) (hp : okc a10 = true) (hv : x + Int32.ofInt k = v) (h : AW K M T (pc + 3) (a0 :: a1 :: a2 :: a3 :: a4 :: a5 :: a6 :: a7 :: a8 :: a9 :: a10 :: some (.int v) :: r) st n R σ) : AW K M T pc (a0 :: a1 :: a2 :: a3 :: a4 :: a5 :: a6 :: a7 :: a8 :: a9 :: a10 :: some (.int x) :: r) st n R σ := by
  obtain ⟨⟨p, l, e, s, m⟩, ⟨args, below, meth, c⟩, D, g, ext, base, n0, rm⟩ := K
  intro ok H locs ls hW hS hl
  obtain ⟨z, hz⟩ : ∃ z : Nat, (lvA (base, ext) 0 (a0 :: a1 :: a2 :: a3 :: a4 :: a5 :: a6 :: a7 :: a8 :: a9 :: a10 :: some (.int x) :: r))[z]? = some (11, .int x) := List.getElem?_of_mem (lvA_mem.mpr ⟨11, .int x, by simp, by simp [cv]⟩)
  exact lv_iinc ok.1 ok.2.1 hd hl hz hv hn rfl (fun ls' hl' => h ok H locs ls' hW hS (by have z := lvA_set1 (v := .int v) (fun w _ e => by simp at e; rw [← e]; exact hp) (by simp) hl'; simpa using z))
theorem aw_iinc_12 {K : KT} {M : MT} {T : TT} {pc : Nat} {st : List Value} {n : Nat} {R : Rg} {σ : Sg} {a0 a1 a2 a3 a4 a5 a6 a7 a8 a9 a10 a11 : Option Value} {r : List (Option Value)} {x v : Int32} {k : Int} (hd : decode M.2.1 pc = .ok (.iinc 12 k, 3)) (hn : 12 < M.2.2.1) (hp : okc a11 = true) (hv : x + Int32.ofInt k = v) (h : AW K M T (pc + 3) (a0 :: a1 :: a2 :: a3 :: a4 :: a5 :: a6 :: a7 :: a8 :: a9 :: a10 :: a11 :: some (.int v) :: r) st n R σ) : AW K M T pc (a0 :: a1 :: a2 :: a3 :: a4 :: a5 :: a6 :: a7 :: a8 :: a9 :: a10 :: a11 :: some (.int x) :: r) st n R σ := by
  obtain ⟨⟨p, l, e, s, m⟩, ⟨args, below, meth, c⟩, D, g, ext, base, n0, rm⟩ := K
  intro ok H locs ls hW hS hl
  obtain ⟨z, hz⟩ : ∃ z : Nat, (lvA (base, ext) 0 (a0 :: a1 :: a2 :: a3 :: a4 :: a5 :: a6 :: a7 :: a8 :: a9 :: a10 :: a11 :: some (.int x) :: r))[z]? = some (12, .int x) := List.getElem?_of_mem (lvA_mem.mpr ⟨12, .int x, by simp, by simp [cv]⟩)
  exact lv_iinc ok.1 ok.2.1 hd hl hz hv hn rfl (fun ls' hl' => h ok H locs ls' hW hS (by have z := lvA_set1 (v := .int v) (fun w _ e => by simp at e; rw [← e]; exact hp) (by simp) hl'; simpa using z))
theorem aw_iinc_13 {K : KT} {M : MT} {T : TT} {pc : Nat} {st : List Value} {n : Nat} {R : Rg} {σ : Sg} {a0 a1 a2 a3 a4 a5 a6 a7 a8 a9 a10 a11 a12 : Option Value} {r : List (Option Value)} {x v : Int32} {k : Int} (hd : decode M.2.1 pc = .ok (.iinc 13 k, 3)) (hn : 13 < M.2.2.1) (hp : okc a12 = true) (hv : x + Int32.ofInt k = v) (h : AW K M T (pc + 3) (a0 :: a1 :: a2 :: a3 :: a4 :: a5 :: a6 :: a7 :: a8 :: a9 :: a10 :: a11 :: a12 :: some (.int v) :: r) st n R σ) : AW K M T pc (a0 :: a1 :: a2 :: a3 :: a4 :: a5 :: a6 :: a7 :: a8 :: a9 :: a10 :: a11 :: a12 :: some (.int x) :: r) st n R σ := by
  obtain ⟨⟨p, l, e, s, m⟩, ⟨args, below, meth, c⟩, D, g, ext, base, n0, rm⟩ := K
  intro ok H locs ls hW hS hl
  obtain ⟨z, hz⟩ : ∃ z : Nat, (lvA (base, ext) 0 (a0 :: a1 :: a2 :: a3 :: a4 :: a5 :: a6 :: a7 :: a8 :: a9 :: a10 :: a11 :: a12 :: some (.int x) :: r))[z]? = some (13, .int x) := List.getElem?_of_mem (lvA_mem.mpr ⟨13, .int x, by simp, by simp [cv]⟩)
  exact lv_iinc ok.1 ok.2.1 hd hl hz hv hn rfl (fun ls' hl' => h ok H locs ls' hW hS (by have z := lvA_set1 (v := .int v) (fun w _ e => by simp at e; rw [← e]; exact hp) (by simp) hl'; simpa using z))
theorem aw_iinc_14 {K : KT} {M : MT} {T : TT} {pc : Nat} {st : List Value} {n : Nat} {R : Rg} {σ : Sg} {a0 a1 a2 a3 a4 a5 a6 a7 a8 a9 a10 a11 a12 a13 : Option Value} {r : List (Option Value)} {x v : Int32} {k : Int} (hd : decode M.2.1 pc = .ok (.iinc 14 k, 3)) (hn : 14 < M.2.2.1) (hp : okc a13 = true) (hv : x + Int32.ofInt k = v) (h : AW K M T (pc + 3) (a0 :: a1 :: a2 :: a3 :: a4 :: a5 :: a6 :: a7 :: a8 :: a9 :: a10 :: a11 :: a12 :: a13 :: some (.int v) :: r) st n R σ) : AW K M T pc (a0 :: a1 :: a2 :: a3 :: a4 :: a5 :: a6 :: a7 :: a8 :: a9 :: a10 :: a11 :: a12 :: a13 :: some (.int x) :: r) st n R σ := by
  obtain ⟨⟨p, l, e, s, m⟩, ⟨args, below, meth, c⟩, D, g, ext, base, n0, rm⟩ := K
  intro ok H locs ls hW hS hl
  obtain ⟨z, hz⟩ : ∃ z : Nat, (lvA (base, ext) 0 (a0 :: a1 :: a2 :: a3 :: a4 :: a5 :: a6 :: a7 :: a8 :: a9 :: a10 :: a11 :: a12 :: a13 :: some (.int x) :: r))[z]? = some (14, .int x) := List.getElem?_of_mem (lvA_mem.mpr ⟨14, .int x, by simp, by simp [cv]⟩)
  exact lv_iinc ok.1 ok.2.1 hd hl hz hv hn rfl (fun ls' hl' => h ok H locs ls' hW hS (by have z := lvA_set1 (v := .int v) (fun w _ e => by simp at e; rw [← e]; exact hp) (by simp) hl'; simpa using z))
theorem aw_iinc_15 {K : KT} {M : MT} {T : TT} {pc : Nat} {st : List Value} {n : Nat} {R : Rg} {σ : Sg} {a0 a1 a2 a3 a4 a5 a6 a7 a8 a9 a10 a11 a12 a13 a14 : Option Value} {r : List (Option Value)} {x v : Int32} {k : Int} (hd : decode M.2.1 pc = .ok (.iinc 15 k, 3)) (hn : 15 < M.2.2.1) (hp : okc a14 = true) (hv : x + Int32.ofInt k = v) (h : AW K M T (pc + 3) (a0 :: a1 :: a2 :: a3 :: a4 :: a5 :: a6 :: a7 :: a8 :: a9 :: a10 :: a11 :: a12 :: a13 :: a14 :: some (.int v) :: r) st n R σ) : AW K M T pc (a0 :: a1 :: a2 :: a3 :: a4 :: a5 :: a6 :: a7 :: a8 :: a9 :: a10 :: a11 :: a12 :: a13 :: a14 :: some (.int x) :: r) st n R σ := by
  obtain ⟨⟨p, l, e, s, m⟩, ⟨args, below, meth, c⟩, D, g, ext, base, n0, rm⟩ := K
  intro ok H locs ls hW hS hl
  obtain ⟨z, hz⟩ : ∃ z : Nat, (lvA (base, ext) 0 (a0 :: a1 :: a2 :: a3 :: a4 :: a5 :: a6 :: a7 :: a8 :: a9 :: a10 :: a11 :: a12 :: a13 :: a14 :: some (.int x) :: r))[z]? = some (15, .int x) := List.getElem?_of_mem (lvA_mem.mpr ⟨15, .int x, by simp, by simp [cv]⟩)
  exact lv_iinc ok.1 ok.2.1 hd hl hz hv hn rfl (fun ls' hl' => h ok H locs ls' hW hS (by have z := lvA_set1 (v := .int v) (fun w _ e => by simp at e; rw [← e]; exact hp) (by simp) hl'; simpa using z))
theorem aw_iinc_16 {K : KT} {M : MT} {T : TT} {pc : Nat} {st : List Value} {n : Nat} {R : Rg} {σ : Sg} {a0 a1 a2 a3 a4 a5 a6 a7 a8 a9 a10 a11 a12 a13 a14 a15 : Option Value} {r : List (Option Value)} {x v : Int32} {k : Int} (hd : decode M.2.1 pc = .ok (.iinc 16 k, 3)) (hn : 16 < M.2.2.1) (hp : okc a15 = true) (hv : x + Int32.ofInt k = v) (h : AW K M T (pc + 3) (a0 :: a1 :: a2 :: a3 :: a4 :: a5 :: a6 :: a7 :: a8 :: a9 :: a10 :: a11 :: a12 :: a13 :: a14 :: a15 :: some (.int v) :: r) st n R σ) : AW K M T pc (a0 :: a1 :: a2 :: a3 :: a4 :: a5 :: a6 :: a7 :: a8 :: a9 :: a10 :: a11 :: a12 :: a13 :: a14 :: a15 :: some (.int x) :: r) st n R σ := by
  obtain ⟨⟨p, l, e, s, m⟩, ⟨args, below, meth, c⟩, D, g, ext, base, n0, rm⟩ := K
  intro ok H locs ls hW hS hl
  obtain ⟨z, hz⟩ : ∃ z : Nat, (lvA (base, ext) 0 (a0 :: a1 :: a2 :: a3 :: a4 :: a5 :: a6 :: a7 :: a8 :: a9 :: a10 :: a11 :: a12 :: a13 :: a14 :: a15 :: some (.int x) :: r))[z]? = some (16, .int x) := List.getElem?_of_mem (lvA_mem.mpr ⟨16, .int x, by simp, by simp [cv]⟩)
  exact lv_iinc ok.1 ok.2.1 hd hl hz hv hn rfl (fun ls' hl' => h ok H locs ls' hW hS (by have z := lvA_set1 (v := .int v) (fun w _ e => by simp at e; rw [← e]; exact hp) (by simp) hl'; simpa using z))
theorem aw_kill_0 {K : KT} {M : MT} {T : TT} {pc : Nat} {st : List Value} {n : Nat} {R : Rg} {σ : Sg} {o : Option Value} {r : List (Option Value)} (h : AW K M T pc (none :: r) st n R σ) : AW K M T pc (o :: r) st n R σ := by
  obtain ⟨⟨p, l, e, s, m⟩, ⟨args, below, meth, c⟩, D, g, ext, base, n0, rm⟩ := K
  intro ok H locs ls hW hS hl
  refine h ok H locs ls hW hS (lvA_drop (L := o :: r) (fun j w e => ?_) hl)
  by_cases hj : j = 0
  · subst hj; simp at e
  · have e2 : (none :: r) = (o :: r).set 0 none := by simp
    rw [e2, List.getElem?_set_ne (Ne.symm hj)] at e; exact e
theorem aw_kill_1 {K : KT} {M : MT} {T : TT} {pc : Nat} {st : List Value} {n : Nat} {R : Rg} {σ : Sg} {a0 o : Option Value} {r : List (Option Value)} (h : AW K M T pc (a0 :: none :: r) st n R σ) : AW K M T pc (a0 :: o :: r) st n R σ := by
  obtain ⟨⟨p, l, e, s, m⟩, ⟨args, below, meth, c⟩, D, g, ext, base, n0, rm⟩ := K
  intro ok H locs ls hW hS hl
  refine h ok H locs ls hW hS (lvA_drop (L := a0 :: o :: r) (fun j w e => ?_) hl)
  by_cases hj : j = 1
  · subst hj; simp at e
  · have e2 : (a0 :: none :: r) = (a0 :: o :: r).set 1 none := by simp
    rw [e2, List.getElem?_set_ne (Ne.symm hj)] at e; exact e
theorem aw_kill_2 {K : KT} {M : MT} {T : TT} {pc : Nat} {st : List Value} {n : Nat} {R : Rg} {σ : Sg} {a0 a1 o : Option Value} {r : List (Option Value)} (h : AW K M T pc (a0 :: a1 :: none :: r) st n R σ) : AW K M T pc (a0 :: a1 :: o :: r) st n R σ := by
  obtain ⟨⟨p, l, e, s, m⟩, ⟨args, below, meth, c⟩, D, g, ext, base, n0, rm⟩ := K
  intro ok H locs ls hW hS hl
  refine h ok H locs ls hW hS (lvA_drop (L := a0 :: a1 :: o :: r) (fun j w e => ?_) hl)
  by_cases hj : j = 2
  · subst hj; simp at e
  · have e2 : (a0 :: a1 :: none :: r) = (a0 :: a1 :: o :: r).set 2 none := by simp
    rw [e2, List.getElem?_set_ne (Ne.symm hj)] at e; exact e
theorem aw_kill_3 {K : KT} {M : MT} {T : TT} {pc : Nat} {st : List Value} {n : Nat} {R : Rg} {σ : Sg} {a0 a1 a2 o : Option Value} {r : List (Option Value)} (h : AW K M T pc (a0 :: a1 :: a2 :: none :: r) st n R σ) : AW K M T pc (a0 :: a1 :: a2 :: o :: r) st n R σ := by
  obtain ⟨⟨p, l, e, s, m⟩, ⟨args, below, meth, c⟩, D, g, ext, base, n0, rm⟩ := K
  intro ok H locs ls hW hS hl
  refine h ok H locs ls hW hS (lvA_drop (L := a0 :: a1 :: a2 :: o :: r) (fun j w e => ?_) hl)
  by_cases hj : j = 3
  · subst hj; simp at e
  · have e2 : (a0 :: a1 :: a2 :: none :: r) = (a0 :: a1 :: a2 :: o :: r).set 3 none := by simp
    rw [e2, List.getElem?_set_ne (Ne.symm hj)] at e; exact e
theorem aw_kill_4 {K : KT} {M : MT} {T : TT} {pc : Nat} {st : List Value} {n : Nat} {R : Rg} {σ : Sg} {a0 a1 a2 a3 o : Option Value} {r : List (Option Value)} (h : AW K M T pc (a0 :: a1 :: a2 :: a3 :: none :: r) st n R σ) : AW K M T pc (a0 :: a1 :: a2 :: a3 :: o :: r) st n R σ := by
  obtain ⟨⟨p, l, e, s, m⟩, ⟨args, below, meth, c⟩, D, g, ext, base, n0, rm⟩ := K
  intro ok H locs ls hW hS hl
  refine h ok H locs ls hW hS (lvA_drop (L := a0 :: a1 :: a2 :: a3 :: o :: r) (fun j w e => ?_) hl)
  by_cases hj : j = 4
  · subst hj; simp at e
  · have e2 : (a0 :: a1 :: a2 :: a3 :: none :: r) = (a0 :: a1 :: a2 :: a3 :: o :: r).set 4 none := by simp
    rw [e2, List.getElem?_set_ne (Ne.symm hj)] at e; exact e
theorem aw_kill_5 {K : KT} {M : MT} {T : TT} {pc : Nat} {st : List Value} {n : Nat} {R : Rg} {σ : Sg} {a0 a1 a2 a3 a4 o : Option Value} {r : List (Option Value)} (h : AW K M T pc (a0 :: a1 :: a2 :: a3 :: a4 :: none :: r) st n R σ) : AW K M T pc (a0 :: a1 :: a2 :: a3 :: a4 :: o :: r) st n R σ := by
  obtain ⟨⟨p, l, e, s, m⟩, ⟨args, below, meth, c⟩, D, g, ext, base, n0, rm⟩ := K
  intro ok H locs ls hW hS hl
  refine h ok H locs ls hW hS (lvA_drop (L := a0 :: a1 :: a2 :: a3 :: a4 :: o :: r) (fun j w e => ?_) hl)
  by_cases hj : j = 5
  · subst hj; simp at e
  · have e2 : (a0 :: a1 :: a2 :: a3 :: a4 :: none :: r) = (a0 :: a1 :: a2 :: a3 :: a4 :: o :: r).set 5 none := by simp
    rw [e2, List.getElem?_set_ne (Ne.symm hj)] at e; exact e
theorem aw_kill_6 {K : KT} {M : MT} {T : TT} {pc : Nat} {st : List Value} {n : Nat} {R : Rg} {σ : Sg} {a0 a1 a2 a3 a4 a5 o : Option Value} {r : List (Option Value)} (h : AW K M T pc (a0 :: a1 :: a2 :: a3 :: a4 :: a5 :: none :: r) st n R σ) : AW K M T pc (a0 :: a1 :: a2 :: a3 :: a4 :: a5 :: o :: r) st n R σ := by
  obtain ⟨⟨p, l, e, s, m⟩, ⟨args, below, meth, c⟩, D, g, ext, base, n0, rm⟩ := K
  intro ok H locs ls hW hS hl
  refine h ok H locs ls hW hS (lvA_drop (L := a0 :: a1 :: a2 :: a3 :: a4 :: a5 :: o :: r) (fun j w e => ?_) hl)
  by_cases hj : j = 6
  · subst hj; simp at e
  · have e2 : (a0 :: a1 :: a2 :: a3 :: a4 :: a5 :: none :: r) = (a0 :: a1 :: a2 :: a3 :: a4 :: a5 :: o :: r).set 6 none := by simp
    rw [e2, List.getElem?_set_ne (Ne.symm hj)] at e; exact e
theorem aw_kill_7 {K : KT} {M : MT} {T : TT} {pc : Nat} {st : List Value} {n : Nat} {R : Rg} {σ : Sg} {a0 a1 a2 a3 a4 a5 a6 o : Option Value} {r : List (Option Value)} (h : AW K M T pc (a0 :: a1 :: a2 :: a3 :: a4 :: a5 :: a6 :: none :: r) st n R σ) : AW K M T pc (a0 :: a1 :: a2 :: a3 :: a4 :: a5 :: a6 :: o :: r) st n R σ := by
  obtain ⟨⟨p, l, e, s, m⟩, ⟨args, below, meth, c⟩, D, g, ext, base, n0, rm⟩ := K
  intro ok H locs ls hW hS hl
  refine h ok H locs ls hW hS (lvA_drop (L := a0 :: a1 :: a2 :: a3 :: a4 :: a5 :: a6 :: o :: r) (fun j w e => ?_) hl)
  by_cases hj : j = 7
  · subst hj; simp at e
  · have e2 : (a0 :: a1 :: a2 :: a3 :: a4 :: a5 :: a6 :: none :: r) = (a0 :: a1 :: a2 :: a3 :: a4 :: a5 :: a6 :: o :: r).set 7 none := by simp
    rw [e2, List.getElem?_set_ne (Ne.symm hj)] at e; exact e
theorem aw_kill_8 {K : KT} {M : MT} {T : TT} {pc : Nat} {st : List Value} {n : Nat} {R : Rg} {σ : Sg} {a0 a1 a2 a3 a4 a5 a6 a7 o : Option Value} {r : List (Option Value)} (h : AW K M T pc (a0 :: a1 :: a2 :: a3 :: a4 :: a5 :: a6 :: a7 :: none :: r) st n R σ) : AW K M T pc (a0 :: a1 :: a2 :: a3 :: a4 :: a5 :: a6 :: a7 :: o :: r) st n R σ := by
  obtain ⟨⟨p, l, e, s, m⟩, ⟨args, below, meth, c⟩, D, g, ext, base, n0, rm⟩ := K
  intro ok H locs ls hW hS hl
  refine h ok H locs ls hW hS (lvA_drop (L := a0 :: a1 :: a2 :: a3 :: a4 :: a5 :: a6 :: a7 :: o :: r) (fun j w e => ?_) hl)
  by_cases hj : j = 8
  · subst hj; simp at e
  · have e2 : (a0 :: a1 :: a2 :: a3 :: a4 :: a5 :: a6 :: a7 :: none :: r) = (a0 :: a1 :: a2 :: a3 :: a4 :: a5 :: a6 :: a7 :: o :: r).set 8 none := by simp
    rw [e2, List.getElem?_set_ne (Ne.symm hj)] at e; exact e
theorem aw_kill_9 {K : KT} {M : MT} {T : TT} {pc : Nat} {st : List Value} {n : Nat} {R : Rg} {σ : Sg} {a0 a1 a2 a3 a4 a5 a6 a7 a8 o : Option Value} {r : List (Option Value)} (h : AW K M T pc (a0 :: a1 :: a2 :: a3 :: a4 :: a5 :: a6 :: a7 :: a8 :: none :: r) st n R σ) : AW K M T pc (a0 :: a1 :: a2 :: a3 :: a4 :: a5 :: a6 :: a7 :: a8 :: o :: r) st n R σ := by
  obtain ⟨⟨p, l, e, s, m⟩, ⟨args, below, meth, c⟩, D, g, ext, base, n0, rm⟩ := K
  intro ok H locs ls hW hS hl
  refine h ok H locs ls hW hS (lvA_drop (L := a0 :: a1 :: a2 :: a3 :: a4 :: a5 :: a6 :: a7 :: a8 :: o :: r) (fun j w e => ?_) hl)
  by_cases hj : j = 9
  · subst hj; simp at e
  · have e2 : (a0 :: a1 :: a2 :: a3 :: a4 :: a5 :: a6 :: a7 :: a8 :: none :: r) = (a0 :: a1 :: a2 :: a3 :: a4 :: a5 :: a6 :: a7 :: a8 :: o :: r).set 9 none := by simp
    rw [e2, List.getElem?_set_ne (Ne.symm hj)] at e; exact e
theorem aw_kill_10 {K : KT} {M : MT} {T : TT} {pc : Nat} {st : List Value} {n : Nat} {R : Rg} {σ : Sg} {a0 a1 a2 a3 a4 a5 a6 a7 a8 a9 o : Option Value} {r : List (Option Value)} (h : AW K M T pc (a0 :: a1 :: a2 :: a3 :: a4 :: a5 :: a6 :: a7 :: a8 :: a9 :: none :: r) st n R σ) : AW K M T pc (a0 :: a1 :: a2 :: a3 :: a4 :: a5 :: a6 :: a7 :: a8 :: a9 :: o :: r) st n R σ := by
  obtain ⟨⟨p, l, e, s, m⟩, ⟨args, below, meth, c⟩, D, g, ext, base, n0, rm⟩ := K
  intro ok H locs ls hW hS hl
  refine h ok H locs ls hW hS (lvA_drop (L := a0 :: a1 :: a2 :: a3 :: a4 :: a5 :: a6 :: a7 :: a8 :: a9 :: o :: r) (fun j w e => ?_) hl)
  by_cases hj : j = 10
  · subst hj; simp at e
  · have e2 : (a0 :: a1 :: a2 :: a3 :: a4 :: a5 :: a6 :: a7 :: a8 :: a9 :: none :: r) = (a0 :: a1 :: a2 :: a3 :: a4 :: a5 :: a6 :: a7 :: a8 :: a9 :: o :: r).set 10 none := by simp
    rw [e2, List.getElem?_set_ne (Ne.symm hj)] at e; exact e
theorem aw_kill_11 {K : KT} {M : MT} {T : TT} {pc : Nat} {st : List Value} {n : Nat} {R : Rg} {σ : Sg} {a0 a1 a2 a3 a4 a5 a6 a7 a8 a9 a10 o : Option Value} {r : List (Option Value)} (h : AW K M T pc (a0 :: a1 :: a2 :: a3 :: a4 :: a5 :: a6 :: a7 :: a8 :: a9 :: a10 :: none :: r) st n R σ) : AW K M T pc (a0 :: a1 :: a2 :: a3 :: a4 :: a5 :: a6 :: a7 :: a8 :: a9 :: a10 :: o :: r) st n R σ := by
  obtain ⟨⟨p, l, e, s, m⟩, ⟨args, below, meth, c⟩, D, g, ext, base, n0, rm⟩ := K
  intro ok H locs ls hW hS hl
  refine h ok H locs ls hW hS (lvA_drop (L := a0 :: a1 :: a2 :: a3 :: a4 :: a5 :: a6 :: a7 :: a8 :: a9 :: a10 :: o :: r) (fun j w e => ?_) hl)
  by_cases hj : j = 11
  · subst hj; simp at e
  · have e2 : (a0 :: a1 :: a2 :: a3 :: a4 :: a5 :: a6 :: a7 :: a8 :: a9 :: a10 :: none :: r) = (a0 :: a1 :: a2 :: a3 :: a4 :: a5 :: a6 :: a7 :: a8 :: a9 :: a10 :: o :: r).set 11 none := by simp
    rw [e2, List.getElem?_set_ne (Ne.symm hj)] at e; exact e
theorem aw_kill_12 {K : KT} {M : MT} {T : TT} {pc : Nat} {st : List Value} {n : Nat} {R : Rg} {σ : Sg} {a0 a1 a2 a3 a4 a5 a6 a7 a8 a9 a10 a11 o : Option Value} {r : List (Option Value)} (h : AW K M T pc (a0 :: a1 :: a2 :: a3 :: a4 :: a5 :: a6 :: a7 :: a8 :: a9 :: a10 :: a11 :: none :: r) st n R σ) : AW K M T pc (a0 :: a1 :: a2 :: a3 :: a4 :: a5 :: a6 :: a7 :: a8 :: a9 :: a10 :: a11 :: o :: r) st n R σ := by
  obtain ⟨⟨p, l, e, s, m⟩, ⟨args, below, meth, c⟩, D, g, ext, base, n0, rm⟩ := K
  intro ok H locs ls hW hS hl
  refine h ok H locs ls hW hS (lvA_drop (L := a0 :: a1 :: a2 :: a3 :: a4 :: a5 :: a6 :: a7 :: a8 :: a9 :: a10 :: a11 :: o :: r) (fun j w e => ?_) hl)
  by_cases hj : j = 12
  · subst hj; simp at e
  · have e2 : (a0 :: a1 :: a2 :: a3 :: a4 :: a5 :: a6 :: a7 :: a8 :: a9 :: a10 :: a11 :: none :: r) = (a0 :: a1 :: a2 :: a3 :: a4 :: a5 :: a6 :: a7 :: a8 :: a9 :: a10 :: a11 :: o :: r).set 12 none := by simp
    rw [e2, List.getElem?_set_ne (Ne.symm hj)] at e; exact e
theorem aw_kill_13 {K : KT} {M : MT} {T : TT} {pc : Nat} {st : List Value} {n : Nat} {R : Rg} {σ : Sg} {a0 a1 a2 a3 a4 a5 a6 a7 a8 a9 a10 a11 a12 o : Option Value} {r : List (Option Value)} (h : AW K M T pc (a0 :: a1 :: a2 :: a3 :: a4 :: a5 :: a6 :: a7 :: a8 :: a9 :: a10 :: a11 :: a12 :: none :: r) st n R σ) : AW K M T pc (a0 :: a1 :: a2 :: a3 :: a4 :: a5 :: a6 :: a7 :: a8 :: a9 :: a10 :: a11 :: a12 :: o :: r) st n R σ := by
  obtain ⟨⟨p, l, e, s, m⟩, ⟨args, below, meth, c⟩, D, g, ext, base, n0, rm⟩ := K
  intro ok H locs ls hW hS hl
  refine h ok H locs ls hW hS (lvA_drop (L := a0 :: a1 :: a2 :: a3 :: a4 :: a5 :: a6 :: a7 :: a8 :: a9 :: a10 :: a11 :: a12 :: o :: r) (fun j w e => ?_) hl)
  by_cases hj : j = 13
  · subst hj; simp at e
  · have e2 : (a0 :: a1 :: a2 :: a3 :: a4 :: a5 :: a6 :: a7 :: a8 :: a9 :: a10 :: a11 :: a12 :: none :: r) = (a0 :: a1 :: a2 :: a3 :: a4 :: a5 :: a6 :: a7 :: a8 :: a9 :: a10 :: a11 :: a12 :: o :: r).set 13 none := by simp
    rw [e2, List.getElem?_set_ne (Ne.symm hj)] at e; exact e
theorem aw_kill_14 {K : KT} {M : MT} {T : TT} {pc : Nat} {st : List Value} {n : Nat} {R : Rg} {σ : Sg} {a0 a1 a2 a3 a4 a5 a6 a7 a8 a9 a10 a11 a12 a13 o : Option Value} {r : List (Option Value)} (h : AW K M T pc (a0 :: a1 :: a2 :: a3 :: a4 :: a5 :: a6 :: a7 :: a8 :: a9 :: a10 :: a11 :: a12 :: a13 :: none :: r) st n R σ) : AW K M T pc (a0 :: a1 :: a2 :: a3 :: a4 :: a5 :: a6 :: a7 :: a8 :: a9 :: a10 :: a11 :: a12 :: a13 :: o :: r) st n R σ := by
  obtain ⟨⟨p, l, e, s, m⟩, ⟨args, below, meth, c⟩, D, g, ext, base, n0, rm⟩ := K
  intro ok H locs ls hW hS hl
  refine h ok H locs ls hW hS (lvA_drop (L := a0 :: a1 :: a2 :: a3 :: a4 :: a5 :: a6 :: a7 :: a8 :: a9 :: a10 :: a11 :: a12 :: a13 :: o :: r) (fun j w e => ?_) hl)
  by_cases hj : j = 14
  · subst hj; simp at e
  · have e2 : (a0 :: a1 :: a2 :: a3 :: a4 :: a5 :: a6 :: a7 :: a8 :: a9 :: a10 :: a11 :: a12 :: a13 :: none :: r) = (a0 :: a1 :: a2 :: a3 :: a4 :: a5 :: a6 :: a7 :: a8 :: a9 :: a10 :: a11 :: a12 :: a13 :: o :: r).set 14 none := by simp
    rw [e2, List.getElem?_set_ne (Ne.symm hj)] at e; exact e
theorem aw_kill_15 {K : KT} {M : MT} {T : TT} {pc : Nat} {st : List Value} {n : Nat} {R : Rg} {σ : Sg} {a0 a1 a2 a3 a4 a5 a6 a7 a8 a9 a10 a11 a12 a13 a14 o : Option Value} {r : List (Option Value)} (h : AW K M T pc (a0 :: a1 :: a2 :: a3 :: a4 :: a5 :: a6 :: a7 :: a8 :: a9 :: a10 :: a11 :: a12 :: a13 :: a14 :: none :: r) st n R σ) : AW K M T pc (a0 :: a1 :: a2 :: a3 :: a4 :: a5 :: a6 :: a7 :: a8 :: a9 :: a10 :: a11 :: a12 :: a13 :: a14 :: o :: r) st n R σ := by
  obtain ⟨⟨p, l, e, s, m⟩, ⟨args, below, meth, c⟩, D, g, ext, base, n0, rm⟩ := K
  intro ok H locs ls hW hS hl
  refine h ok H locs ls hW hS (lvA_drop (L := a0 :: a1 :: a2 :: a3 :: a4 :: a5 :: a6 :: a7 :: a8 :: a9 :: a10 :: a11 :: a12 :: a13 :: a14 :: o :: r) (fun j w e => ?_) hl)
  by_cases hj : j = 15
  · subst hj; simp at e
  · have e2 : (a0 :: a1 :: a2 :: a3 :: a4 :: a5 :: a6 :: a7 :: a8 :: a9 :: a10 :: a11 :: a12 :: a13 :: a14 :: none :: r) = (a0 :: a1 :: a2 :: a3 :: a4 :: a5 :: a6 :: a7 :: a8 :: a9 :: a10 :: a11 :: a12 :: a13 :: a14 :: o :: r).set 15 none := by simp
    rw [e2, List.getElem?_set_ne (Ne.symm hj)] at e; exact e
theorem aw_kill_16 {K : KT} {M : MT} {T : TT} {pc : Nat} {st : List Value} {n : Nat} {R : Rg} {σ : Sg} {a0 a1 a2 a3 a4 a5 a6 a7 a8 a9 a10 a11 a12 a13 a14 a15 o : Option Value} {r : List (Option Value)} (h : AW K M T pc (a0 :: a1 :: a2 :: a3 :: a4 :: a5 :: a6 :: a7 :: a8 :: a9 :: a10 :: a11 :: a12 :: a13 :: a14 :: a15 :: none :: r) st n R σ) : AW K M T pc (a0 :: a1 :: a2 :: a3 :: a4 :: a5 :: a6 :: a7 :: a8 :: a9 :: a10 :: a11 :: a12 :: a13 :: a14 :: a15 :: o :: r) st n R σ := by
  obtain ⟨⟨p, l, e, s, m⟩, ⟨args, below, meth, c⟩, D, g, ext, base, n0, rm⟩ := K
  intro ok H locs ls hW hS hl
  refine h ok H locs ls hW hS (lvA_drop (L := a0 :: a1 :: a2 :: a3 :: a4 :: a5 :: a6 :: a7 :: a8 :: a9 :: a10 :: a11 :: a12 :: a13 :: a14 :: a15 :: o :: r) (fun j w e => ?_) hl)
  by_cases hj : j = 16
  · subst hj; simp at e
  · have e2 : (a0 :: a1 :: a2 :: a3 :: a4 :: a5 :: a6 :: a7 :: a8 :: a9 :: a10 :: a11 :: a12 :: a13 :: a14 :: a15 :: none :: r) = (a0 :: a1 :: a2 :: a3 :: a4 :: a5 :: a6 :: a7 :: a8 :: a9 :: a10 :: a11 :: a12 :: a13 :: a14 :: a15 :: o :: r).set 16 none := by simp
    rw [e2, List.getElem?_set_ne (Ne.symm hj)] at e; exact e

/-! the heap: fields and arrays -/
theorem va_P1 {D : va_G} {cl : List vw_C} {q : Nat × va_E} {H : Heap} (h : va_at D cl q H) : va_P D cl [q] H := fun k x hx => by
  cases k with
  | zero => cases hx; exact h
  | succ k => simp at hx
def CFact (ci : Nat) (C : String) (Tb : u_T) (N : Nat) (ty : Nat → FieldType) : Prop := cls[ci]? = some (C, Tb, N) ∧ ci < 9 ∧ N = nf ci ∧ (∀ w ∈ u_ws C Tb N, w ∈ wT) ∧ (∀ k, k < N → parseFieldDescriptor (Tb k).2.2.1 = some (ty k)) ∧ (∀ a, a < N → ∀ b, b < N → a ≠ b → (Tb a).2.1 ≠ (Tb b).2.1) ∧ (∀ k, k < N → isr ci k = false → ty k = .int ∧ (Tb k).2.2.2 = false) ∧ (∀ k, k < N → (Tb k).1 = C)
def FL (own : String) (idx ci k : Nat) : Prop := ∃ C Tb N ty, CFact ci C Tb N ty ∧ k < N ∧ Cond.fieldLink own idx (Tb k).1 (Tb k).2.1 (Tb k).2.2.1 ∈ wT
theorem cE_obj {g : CG} {base : Nat} {R : Rg} {σ : Sg} {c ci : Nat} (hs : (sh c).1 = ci) (h9 : ci < 9) : cE g base R σ c = .inr (ci, (List.range (nf ci)).map (fv base R σ c)) := by
  unfold cE
  rw [if_pos (by rw [hs]; exact h9), hs]
theorem cE_int {g : CG} {base : Nat} {R : Rg} {σ : Sg} {c len : Nat} (hs : sh c = (9, len)) : cE g base R σ c = .inl (g.1, len, .inl (σ c)) := by
  unfold cE
  rw [hs]
  rfl
theorem cE_bool {g : CG} {base : Nat} {R : Rg} {σ : Sg} {c len : Nat} (hs : sh c = (10, len)) : cE g base R σ c = .inl (g.2.1, len, .inl (σ c)) := by
  unfold cE
  rw [hs]
  rfl
theorem cE_mdw {g : CG} {base : Nat} {R : Rg} {σ : Sg} {c len : Nat} (hs : sh c = (11, len)) : cE g base R σ c = .inl (g.2.2, len, .inr (.inr (.inr (.inr (fun j => (R c j).map (fun d => base + d)))))) := by
  unfold cE
  rw [hs]
  rfl
theorem cE_congr {g : CG} {base : Nat} {R R' : Rg} {σ σ' : Sg} {c : Nat} (h1 : σ c = σ' c) (h2 : R c = R' c) : cE g base R σ c = cE g base R' σ' c := by
  have h3 : fv base R σ c = fv base R' σ' c := by
    funext j
    simp [fv, h1, h2]
  have h4 : dl σ c = dl σ' c := by
    unfold dl
    rw [h1]
  unfold cE
  rw [h3, h1, h2, h4]
theorem up_ne {σ : Sg} {c k a : Nat} {v : Int32} (h : a ≠ c) : up σ c k v a = σ a := by
  funext j
  simp [up, h]
theorem upr_ne {R : Rg} {c k a : Nat} {v : Option Nat} (h : a ≠ c) : upr R c k v a = R a := by
  funext j
  simp [upr, h]
theorem up_self {σ : Sg} {c k : Nat} {v : Int32} : up σ c k v c = upd (σ c) k v := by
  funext j
  simp [up, upd]
theorem WD.put {D : va_G} {g : CG} {base n : Nat} {R R' : Rg} {σ σ' : Sg} {H H1 : Heap} {c : Nat} (hW : WD D g base n R σ H) (z : H1.size = H.size) (oq : ∀ q : Nat, q ≠ base + c → H1[q]? = H[q]?) (h1 : ∀ a, a ≠ c → σ a = σ' a) (h2 : ∀ a, a ≠ c → R a = R' a) (hc : va_at D cls (base + c, cE g base R' σ' c) H1) : WD D g base n R' σ' H1 := by
  refine ⟨z.trans hW.1, fun a ha => ?_⟩
  by_cases e : a = c
  · subst e
    exact hc
  · rw [← cE_congr (h1 a e) (h2 a e)]
    exact (hW.2 a ha).kept (oq (base + a) (by omega))
theorem fs_setI {base N : Nat} {R : Rg} {σ : Sg} {c k : Nat} {v : Int32} (hi : isr (sh c).1 k = false) (hk : k < N) : ((List.range N).map (fv base R σ c)).set k (.int v) = (List.range N).map (fv base R (up σ c k v) c) := by
  apply List.ext_getElem?
  intro j
  by_cases hj : j = k
  · subst hj
    rw [List.getElem?_set_self (by simpa using hk), List.getElem?_map, List.getElem?_range hk]
    simp [fv, hi, up]
  · rw [List.getElem?_set_ne (Ne.symm hj), List.getElem?_map, List.getElem?_map]
    by_cases hN : j < N
    · rw [List.getElem?_range hN]
      simp [fv, up, hj]
    · rw [List.getElem?_eq_none (by simpa using Nat.le_of_not_lt hN)]
      rfl
theorem fs_setR {base N : Nat} {R : Rg} {σ : Sg} {c k d : Nat} (hi : isr (sh c).1 k = true) (hk : k < N) : ((List.range N).map (fv base R σ c)).set k (.ref (base + d)) = (List.range N).map (fv base (upr R c k (some d)) σ c) := by
  apply List.ext_getElem?
  intro j
  by_cases hj : j = k
  · subst hj
    rw [List.getElem?_set_self (by simpa using hk), List.getElem?_map, List.getElem?_range hk]
    simp [fv, hi, upr, va_rf]
  · rw [List.getElem?_set_ne (Ne.symm hj), List.getElem?_map, List.getElem?_map]
    by_cases hN : j < N
    · rw [List.getElem?_range hN]
      simp [fv, upr, hj]
    · rw [List.getElem?_eq_none (by simpa using Nat.le_of_not_lt hN)]
      rfl
section HEAP
variable {K : KT} {M : MT} {T : TT} {pc : Nat} {L : List (Option Value)} {st : List Value} {n : Nat} {R : Rg} {σ : Sg}
theorem aw_getI {c ci k idx : Nat} (hd : decode M.2.1 pc = .ok (.getfield idx, 3)) (hf : FL M.1 idx ci k) (hc : c < n) (hs : (sh c).1 = ci) (hi : isr ci k = false) (h : AW K M T (pc + 3) L (.int (σ c k) :: st) n R σ) : AW K M T pc L (.ref c :: st) n R σ := by
  obtain ⟨⟨p, l, e, s, m⟩, ⟨args, below, meth, c0⟩, D, g, ext, base, n0, rm⟩ := K
  intro ok H locs ls hW hS hl
  obtain ⟨C, Tb, N, ty, ⟨f1, f2, f3, f4, f5, f6, f7, f8⟩, hk, hlk⟩ := hf
  have hat := hW.2 c hc
  rw [cE_obj hs f2] at hat
  obtain ⟨hx, hb, hr, hml, hown, hts, hKS, hlo, hbs, hn0, hnT, hF, hLo, hCe, hSl⟩ := id ok
  have hv : ((List.range (nf ci)).map (fv base R σ c))[k]? = some (.int (σ c k)) := by
    rw [List.getElem?_map, List.getElem?_range (by omega)]
    simp [fv, hs, hi]
  exact va_get hx hb hts f4 hown hKS.1 (va_P1 hat) 0 rfl f1 k hk (hts _ hlk) (fun _ z => z) hv hd (h ok H locs ls hW hS hl)
theorem aw_getR {c ci k idx d : Nat} (hd : decode M.2.1 pc = .ok (.getfield idx, 3)) (hf : FL M.1 idx ci k) (hc : c < n) (hs : (sh c).1 = ci) (hi : isr ci k = true) (hr : R c k = some d) (h : AW K M T (pc + 3) L (.ref d :: st) n R σ) : AW K M T pc L (.ref c :: st) n R σ := by
  obtain ⟨⟨p, l, e, s, m⟩, ⟨args, below, meth, c0⟩, D, g, ext, base, n0, rm⟩ := K
  intro ok H locs ls hW hS hl
  obtain ⟨C, Tb, N, ty, ⟨f1, f2, f3, f4, f5, f6, f7, f8⟩, hk, hlk⟩ := hf
  have hat := hW.2 c hc
  rw [cE_obj hs f2] at hat
  obtain ⟨hx, hb, hr', hml, hown, hts, hKS, hlo, hbs, hn0, hnT, hF, hLo, hCe, hSl⟩ := id ok
  have hv : ((List.range (nf ci)).map (fv base R σ c))[k]? = some (.ref (base + d)) := by
    rw [List.getElem?_map, List.getElem?_range (by omega)]
    simp [fv, hs, hi, hr, va_rf]
  exact va_get hx hb hts f4 hown hKS.1 (va_P1 hat) 0 rfl f1 k hk (hts _ hlk) (fun _ z => z) hv hd (h ok H locs ls hW hS hl)
theorem aw_putI {c ci k idx : Nat} {v : Int32} (hd : decode M.2.1 pc = .ok (.putfield idx, 3)) (hf : FL M.1 idx ci k) (hc : c < n) (hs : (sh c).1 = ci) (hi : isr ci k = false) (h : AW K M T (pc + 3) L st n R (up σ c k v)) : AW K M T pc L (.int v :: .ref c :: st) n R σ := by
  obtain ⟨⟨p, l, e, s, m⟩, ⟨args, below, meth, c0⟩, D, g, ext, base, n0, rm⟩ := K
  intro ok H locs ls hW hS hl
  obtain ⟨C, Tb, N, ty, ⟨f1, f2, f3, f4, f5, f6, f7, f8⟩, hk, hlk⟩ := hf
  have hat := hW.2 c hc
  rw [cE_obj hs f2] at hat
  obtain ⟨hx, hb, hr', hml, hown, hts, hKS, hlo, hbs, hn0, hnT, hF, hLo, hCe, hSl⟩ := id ok
  have hap := va_apart (own := M.1) hts f4 ty f5 f6 hKS.1 f1
  obtain ⟨r, h1, cell, q1, q2, q3, q4⟩ := hat
  have hr : r = (C, Tb, N) := Option.some.inj (h1.symm.trans f1)
  subst hr
  obtain ⟨hSl, hfc, kC, hkC, hkind⟩ := hKS.1.1 ci _ f1
  obtain ⟨cf, kf, fi, f, hfi, hsl⟩ := hSl k hk
  have hlay := hts _ (f4 _ (u_in_lay hk))
  unfold u_lay at hlay
  rw [if_neg (by rw [(f7 k hk hi).2]; decide)] at hlay
  have hst := (u_facts hfc hkC (u_lays hts f4 hk) hfi).1
  have h6 := u_store (v := .int v) hfc hkC hkind hlay hfi (f5 k hk) (by rw [(f7 k hk hi).1]; rfl) (by rw [(f7 k hk hi).1]; rfl)
  have fin : ∀ H1 : Heap, H1[base + c]? = some (cell.setSlot f.slot (.int v)) → H1.size = H.size → (∀ q, q ≠ base + c → H1[q]? = H[q]?) → W p l e rm s m args below meth c0 H1 (locs ++ [⟨base + c, f.slot⟩]) (n - n0) (szs n - szs n0) (MQ below (QC D g base ext T) args s (T.2.1 - n0) (szs T.2.1 - szs n0) (fun q => base ≤ q)) (F0 m (pc + 3) ls (st.map (cv (base, ext)))) := by
    intro H1 e1 e2 e3
    rw [hsl] at e1 ⊢
    refine h ok H1 _ ls (hW.put e2 e3 (fun a ha => (up_ne ha).symm) (fun _ _ => rfl) ?_) (hS.put e2 e3 (Nat.le_add_right _ _)) hl
    rw [cE_obj hs f2]
    refine ⟨_, f1, t_OB.to (V := updV (vp_V ((List.range (nf ci)).map (fv base R σ c))) k (.int v)) ⟨_, e1, q2, q3, t_set q4 hap hk (.int v)⟩ (fun j _ => ?_)⟩
    rw [vp_updV_set (by simpa using (by omega : k < nf ci)), fs_setI (by rw [hs]; exact hi) (by omega)]
  exact W.putK hx hb (f := f) ⟨hown, hts _ hlk, ⟨_, _, _, hfi⟩, hst⟩ (by rw [q2]; exact h6) q1 q3 (by rw [hsl]; exact k2_hasslot (q4 k hk)) rfl rfl hd fin
def inb (i : Int32) (n : Nat) : Bool := decide (0 ≤ i) && decide (i.toNatClampNeg < n)
theorem inb_vp {i : Int32} {n : Nat} (h : inb i n = true) : vp_in i n := by
  simp only [inb, Bool.and_eq_true, decide_eq_true_eq] at h
  intro z
  rcases z with z | z
  · exact absurd h.1 (by simpa using z)
  · exact absurd h.2 (Nat.not_lt.mpr z)
theorem aw_iald {c len : Nat} {i : Int32} (hd : decode M.2.1 pc = .ok (.iaload, 1)) (hc : c < n) (hs : sh c = (9, len)) (hi : inb i len = true) (h : AW K M T (pc + 1) L (.int (σ c i.toNatClampNeg) :: st) n R σ) : AW K M T pc L (.int i :: .ref c :: st) n R σ := by
  obtain ⟨⟨p, l, e, s, m⟩, ⟨args, below, meth, c0⟩, D, g, ext, base, n0, rm⟩ := K
  intro ok H locs ls hW hS hl
  have hat := hW.2 c hc
  rw [cE_int hs] at hat
  obtain ⟨hx, hb, hr', hml, hown, hts, hKS, hlo, hbs, hn0, hnT, hF, hLo, hCe, hSl⟩ := id ok
  exact va_iald hx hb hKS.1 (va_P1 hat) 0 0 rfl rfl (inb_vp hi) hd (h ok H locs ls hW hS hl)
theorem aw_zald {c len : Nat} {i : Int32} (hd : decode M.2.1 pc = .ok (.baload, 1)) (hc : c < n) (hs : sh c = (10, len)) (hi : inb i len = true) (h : AW K M T (pc + 1) L (.int (σ c i.toNatClampNeg) :: st) n R σ) : AW K M T pc L (.int i :: .ref c :: st) n R σ := by
  obtain ⟨⟨p, l, e, s, m⟩, ⟨args, below, meth, c0⟩, D, g, ext, base, n0, rm⟩ := K
  intro ok H locs ls hW hS hl
  have hat := hW.2 c hc
  rw [cE_bool hs] at hat
  obtain ⟨hx, hb, hr', hml, hown, hts, hKS, hlo, hbs, hn0, hnT, hF, hLo, hCe, hSl⟩ := id ok
  exact va_zald hx hb hKS.1 (va_P1 hat) 0 1 rfl rfl (inb_vp hi) hd (h ok H locs ls hW hS hl)
theorem aw_aald {c len d : Nat} {i : Int32} (hd : decode M.2.1 pc = .ok (.aaload, 1)) (hc : c < n) (hs : sh c = (11, len)) (hi : inb i len = true) (hr : R c i.toNatClampNeg = some d) (h : AW K M T (pc + 1) L (.ref d :: st) n R σ) : AW K M T pc L (.int i :: .ref c :: st) n R σ := by
  obtain ⟨⟨p, l, e, s, m⟩, ⟨args, below, meth, c0⟩, D, g, ext, base, n0, rm⟩ := K
  intro ok H locs ls hW hS hl
  have hat := hW.2 c hc
  rw [cE_mdw hs] at hat
  obtain ⟨hx, hb, hr', hml, hown, hts, hKS, hlo, hbs, hn0, hnT, hF, hLo, hCe, hSl⟩ := id ok
  refine va_aldq hx hb hKS.1 (va_P1 hat) 0 2 rfl rfl (inb_vp hi) hd ?_
  rw [hr]
  exact h ok H locs ls hW hS hl
theorem aw_alen {c k len : Nat} {v : Int32} (hd : decode M.2.1 pc = .ok (.arraylength, 1)) (hc : c < n) (hs : sh c = (k, len)) (hk : k = 9 ∨ k = 11) (hv : Int32.ofNat len = v) (h : AW K M T (pc + 1) L (.int v :: st) n R σ) : AW K M T pc L (.ref c :: st) n R σ := by
  obtain ⟨⟨p, l, e, s, m⟩, ⟨args, below, meth, c0⟩, D, g, ext, base, n0, rm⟩ := K
  intro ok H locs ls hW hS hl
  have hat := hW.2 c hc
  obtain ⟨hx, hb, hr', hml, hown, hts, hKS, hlo, hbs, hn0, hnT, hF, hLo, hCe, hSl⟩ := id ok
  rcases hk with rfl | rfl
  · rw [cE_int hs] at hat
    exact va_alen hx hb hKS.1 (va_P1 hat) 0 0 rfl rfl hv hd (h ok H locs ls hW hS hl)
  · rw [cE_mdw hs] at hat
    exact va_alen hx hb hKS.1 (va_P1 hat) 0 2 rfl rfl hv hd (h ok H locs ls hW hS hl)
theorem aw_iast {c len : Nat} {i v : Int32} (hd : decode M.2.1 pc = .ok (.iastore, 1)) (hc : c < n) (hs : sh c = (9, len)) (hi : inb i len = true) (h : AW K M T (pc + 1) L st n R (up σ c i.toNatClampNeg v)) : AW K M T pc L (.int v :: .int i :: .ref c :: st) n R σ := by
  obtain ⟨⟨p, l, e, s, m⟩, ⟨args, below, meth, c0⟩, D, g, ext, base, n0, rm⟩ := K
  intro ok H locs ls hW hS hl
  have hat := hW.2 c hc
  rw [cE_int hs] at hat
  obtain ⟨hx, hb, hr', hml, hown, hts, hKS, hlo, hbs, hn0, hnT, hF, hLo, hCe, hSl⟩ := id ok
  refine W.iast hx hb hat ((hKS.1.2 0 _ rfl).1 len (fun j => .int (σ c j))) (fun q => by cases q) (by show ¬ (i < 0 ∨ (arrV _ _ _).slots.size ≤ _); rw [arrV_size]; exact inb_vp hi) rfl rfl hd fun H1 e1 e2 e3 => ?_
  refine h ok H1 _ ls (hW.put e2 e3 (fun a ha => (up_ne ha).symm) (fun _ _ => rfl) ?_) (hS.put e2 e3 (Nat.le_add_right _ _)) hl
  rw [cE_int hs]
  show H1[base + c]? = some (vp_cell _ _)
  rw [e1, vp_cell_i, vp_cell_i, arrV_store, up_self]
  congr 2
  funext q
  by_cases hq : q = i.toNatClampNeg
  · subst hq
    simp [updV, upd]
  · simp [updV, upd, hq]
theorem aw_zast {c len : Nat} {i v : Int32} (hd : decode M.2.1 pc = .ok (.bastore, 1)) (hc : c < n) (hs : sh c = (10, len)) (hi : inb i len = true) (h : AW K M T (pc + 1) L st n R (up σ c i.toNatClampNeg (vp_nar .boolean v))) : AW K M T pc L (.int v :: .int i :: .ref c :: st) n R σ := by
  obtain ⟨⟨p, l, e, s, m⟩, ⟨args, below, meth, c0⟩, D, g, ext, base, n0, rm⟩ := K
  intro ok H locs ls hW hS hl
  have hat := hW.2 c hc
  rw [cE_bool hs] at hat
  obtain ⟨hx, hb, hr', hml, hown, hts, hKS, hlo, hbs, hn0, hnT, hF, hLo, hCe, hSl⟩ := id ok
  refine W.zast hx hb hat ((hKS.1.2 1 _ rfl).1 len (fun j => .int (σ c j))) (fun q => by cases q) (by show ¬ (i < 0 ∨ (arrV _ _ _).slots.size ≤ _); rw [arrV_size]; exact inb_vp hi) rfl rfl hd fun H1 e1 e2 e3 => ?_
  refine h ok H1 _ ls (hW.put e2 e3 (fun a ha => (up_ne ha).symm) (fun _ _ => rfl) ?_) (hS.put e2 e3 (Nat.le_add_right _ _)) hl
  rw [cE_bool hs]
  show H1[base + c]? = some (vp_cell _ _)
  rw [e1, vp_cell_i, vp_cell_i, arrV_store, up_self]
  congr 2
  funext q
  by_cases hq : q = i.toNatClampNeg
  · subst hq
    simp [updV, upd, vp_nar]
    try rfl
  · simp [updV, upd, hq]
end HEAP

/-! entry, returns, calls -/
section RET
variable {K : KT} {M : MT} {T : TT} {pc : Nat} {L : List (Option Value)} {st : List Value} {n : Nat} {R : Rg} {σ : Sg}
theorem aw_iret {x : Int32} (hd : decode M.2.1 pc = .ok (.ireturn, 1)) (hr : M.2.2.2.1 = some .int) (hT : T = (some (.int x), n, R, σ)) : AW K M T pc L [.int x] n R σ := by
  subst hT
  obtain ⟨⟨p, l, e, s, m⟩, ⟨args, below, meth, c0⟩, D, g, ext, base, n0, rm⟩ := K
  intro ok H locs ls hW hS hl
  obtain ⟨hx, hb, hre, hml, hown, hts, hKS, hlo, hbs, hn0, hnT, hF, hLo, hCe, hSl⟩ := id ok
  exact W.iret hx hb (by rw [hre, hr]) (fun t ht _ => ⟨⟨rfl, by rw [ht]; exact hW⟩, hS.F ht⟩) hS.2.2 hd hlo
theorem aw_zret {x : Int32} (hd : decode M.2.1 pc = .ok (.ireturn, 1)) (hr : M.2.2.2.1 = some .boolean) (h01 : x = 0 ∨ x = 1) (hT : T = (some (.int x), n, R, σ)) : AW K M T pc L [.int x] n R σ := by
  subst hT
  obtain ⟨⟨p, l, e, s, m⟩, ⟨args, below, meth, c0⟩, D, g, ext, base, n0, rm⟩ := K
  intro ok H locs ls hW hS hl
  obtain ⟨hx, hb, hre, hml, hown, hts, hKS, hlo, hbs, hn0, hnT, hF, hLo, hCe, hSl⟩ := id ok
  exact W.zret (ty := .boolean) hx hb (by rw [hre, hr]) (by rcases h01 with rfl | rfl <;> rfl) (fun t ht _ => ⟨⟨rfl, by rw [ht]; exact hW⟩, hS.F ht⟩) hS.2.2 hd hlo
theorem aw_lret {x : Int64} (hd : decode M.2.1 pc = .ok (.lreturn, 1)) (hr : M.2.2.2.1 = some .long) (hT : T = (some (.long x), n, R, σ)) : AW K M T pc L [.long x] n R σ := by
  subst hT
  obtain ⟨⟨p, l, e, s, m⟩, ⟨args, below, meth, c0⟩, D, g, ext, base, n0, rm⟩ := K
  intro ok H locs ls hW hS hl
  obtain ⟨hx, hb, hre, hml, hown, hts, hKS, hlo, hbs, hn0, hnT, hF, hLo, hCe, hSl⟩ := id ok
  exact W.lret hx hb (by rw [hre, hr]) (fun t ht _ => ⟨⟨rfl, by rw [ht]; exact hW⟩, hS.F ht⟩) hS.2.2 hd hlo
theorem aw_aret {c : Nat} {C : String} (hd : decode M.2.1 pc = .ok (.areturn, 1)) (hr : M.2.2.2.1 = some (.object C)) (hT : T = (some (.ref c), n, R, σ)) : AW K M T pc L [.ref c] n R σ := by
  subst hT
  obtain ⟨⟨p, l, e, s, m⟩, ⟨args, below, meth, c0⟩, D, g, ext, base, n0, rm⟩ := K
  intro ok H locs ls hW hS hl
  obtain ⟨hx, hb, hre, hml, hown, hts, hKS, hlo, hbs, hn0, hnT, hF, hLo, hCe, hSl⟩ := id ok
  exact W.aret (v := .ref (base + c)) hx hb (by rw [hre, hr]) (Or.inl ⟨_, rfl⟩) (Or.inr ⟨_, rfl⟩) (fun t ht _ => ⟨⟨rfl, by rw [ht]; exact hW⟩, hS.F ht⟩) hS.2.2 hd hlo
theorem aw_vret (hd : decode M.2.1 pc = .ok (.return_, 1)) (hr : M.2.2.2.1 = none) (hT : T = (none, n, R, σ)) : AW K M T pc L [] n R σ := by
  subst hT
  obtain ⟨⟨p, l, e, s, m⟩, ⟨args, below, meth, c0⟩, D, g, ext, base, n0, rm⟩ := K
  intro ok H locs ls hW hS hl
  obtain ⟨hx, hb, hre, hml, hown, hts, hKS, hlo, hbs, hn0, hnT, hF, hLo, hCe, hSl⟩ := id ok
  exact W.vret hx hb (by rw [hre, hr]) (fun t ht _ => ⟨⟨rfl, by rw [ht]; exact hW⟩, hS.F ht⟩) hS.2.2 hd hlo
theorem AMc.of {y : MethodName} {av : List Value} (hy : plainName y.cls = true) (hM : y.cls = M.1) (hlv : ∀ bt, lvA bt 0 L = lv_args 0 (av.map (cv bt))) (hle : ∀ bt, (lg_sl (av.map (cv bt))).length ≤ M.2.2.1) (hn : n ≤ T.2.1) (h : ∀ K, AW K M T 0 L [] n R σ) : AMc y M av n R σ T := by
  intro l D g ext base
  refine Met.ofW (cc := M.2.1) (maxL := M.2.2.1) (ret := M.2.2.2.1) hy rfl ?_
  intro p e s m args below meth c s₁ B hml hv
  obtain ⟨rfl, hWD, hKS⟩ := hv
  have hts0 := atoms_spec (ws := Cond.code y M.2.1 M.2.2.1 M.2.2.2.1 :: wT) B.pre
  have hl := lv_entry (av.map (cv (base, ext))) (n := M.2.2.1) (hle (base, ext))
  rw [← hlv] at hl
  rw [lg_entry_eq]
  have hb : base ≤ s.heap.size := by rw [hWD.1]; omega
  have hown : s.vm.findClass M.1 = some m.cls := by rw [← hM]; exact findClass_of_methodNamed B.named
  have z := h ((p, l, e, s, m), ((av.map (cv (base, ext))).toArray, below, meth, c), D, g, ext, base, n, roomOf M.2.2.2.2 n T.2.1) ⟨B.exec, B.bytes, B.returns, hml, hown, fun w hw => hts0 w (List.mem_cons_of_mem _ hw), hKS, B.notSynchronized, hb, Nat.le_refl _, hn, Nat.le_refl _, Nat.le_refl _, Nat.le_refl _, Nat.le_refl _⟩ s.heap [] _ hWD va_S.rf hl
  rw [Nat.sub_self, Nat.sub_self] at z
  exact z
def LV (own : String) (idx : Nat) (y : MethodName) (M' : MT) (na ci : Nat) : Prop := (∀ w ∈ wsV own idx y.cls y [Cond.code y M'.2.1 M'.2.2.1 M'.2.2.2.1], w ∈ wT) ∧ (y.cls ≠ "java/lang/invoke/MethodHandle" ∧ y.cls ≠ "java/lang/invoke/VarHandle" ∧ (parseMethodDescriptor y.desc).map (fun d => d.parameters.length) = some na) ∧ ∃ Tb N, cls[ci]? = some (y.cls, Tb, N)
theorem cat_map {bt : Nat × (Nat → Nat)} : ∀ rest : List Value, ((rest.map (cv bt)).map fun v => v.category).sum = (rest.map fun v => v.category).sum
  | [] => rfl
  | v :: r => by
    rw [List.map_cons, List.map_cons, List.map_cons, List.sum_cons, List.sum_cons, cat_map r, cv_cat]
theorem aw_fin {K0 : Program × Launch × Env × State × MethodId} {args : Array Value} {below : List Frame} {meth : Method} {c0 : Code} {D : va_G} {g : CG} {ext : Nat → Nat} {base n0 : Nat} {rm : Room} {H : Heap} {locs : List Loc} {ls : Array Slot} {rest : List Value} {a : Array Value} {r : Option Value} {n1 : Nat} {R1 : Rg} {σ1 : Sg} (ok : KOK (K0, (args, below, meth, c0), D, g, ext, base, n0, rm) M T n) (hW : WD D g base n R σ H) (hS : va_S (fun q => base ≤ q) K0.2.2.2.1.heap H locs) (hl : lv_has ls M.2.2.1 (lvA (base, ext) 0 L)) (hn1 : n ≤ n1) (hn2 : n1 ≤ T.2.1)
    (hr : va_Run K0.1 K0.2.1 K0.2.2.1 rm K0.2.2.2.1 K0.2.2.2.2 args below meth c0 H locs (n - n0) (szs n - szs n0) (n1 - n) (szs n1 - szs n) (F0 K0.2.2.2.2 pc ls (st.map (cv (base, ext)))) (rest.map (cv (base, ext))) (QC D g base ext (r, n1, R1, σ1) a) (fun q => base ≤ q))
    (h : AW (K0, (args, below, meth, c0), D, g, ext, base, n0, rm) M T (pc + 3) L (r.toList ++ rest) n1 R1 σ1) : W K0.1 K0.2.1 K0.2.2.1 rm K0.2.2.2.1 K0.2.2.2.2 args below meth c0 H locs (n - n0) (szs n - szs n0) (MQ below (QC D g base ext T) args K0.2.2.2.1 (T.2.1 - n0) (szs T.2.1 - szs n0) (fun q => base ≤ q)) (F0 K0.2.2.2.2 pc ls (st.map (cv (base, ext)))) := by
  obtain ⟨p, l, e, s, m⟩ := K0
  obtain ⟨hx, hb, hre, hml, hown, hts, hKS, hlo, hbs, hn0, hnT, hF, hLo, hCe, hSl⟩ := id ok
  intro T0 hT0 X
  obtain ⟨v, st₀, t, T', L', h0, X', hL', e1, e2, ⟨⟨hv, hw'⟩, hz, hk⟩, stp⟩ := hr T0 hT0 X
  cases hv
  rw [h0] at hz hk
  have q1 := szs_le hn0
  have q2 := szs_le hn1
  have hc1 : n - n0 + (n1 - n) = n1 - n0 := by omega
  have hc2 : szs n - szs n0 + (szs n1 - szs n) = szs n1 - szs n0 := by omega
  rw [hc1, hc2] at X'
  obtain ⟨t2, a1, b1⟩ := h ⟨hx, hb, hre, hml, hown, hts, hKS, hlo, hbs, by omega, hn2, hF, hLo, hCe, hSl⟩ T'.heap (locs ++ L') ls (by rw [e1]; exact hw') ⟨Nat.le_trans hS.1 (by rw [e1]; exact hz), fun q h1 h2 => by rw [e1, hk q (Nat.lt_of_lt_of_le h1 hS.1) h2]; exact hS.2.1 q h1 h2, fun q hq => by
      rcases List.mem_append.mp hq with h | h
      · exact hS.2.2 q h
      · exact hL' q h⟩ hl T' rfl X'
  refine ⟨t2, stp t2 ?_, b1⟩
  rw [List.map_append] at a1
  cases r <;> exact a1
theorem KS.blind {D : va_G} {g : CG} {ext : Nat → Nat} {base : Nat} {av : List Value} : FrameBlind (va_Pc av (fun U => WD D g base n R σ U.heap ∧ KS D g ext base U U.heap)) := fun _ U _ _ q => ⟨q.1, q.2.1, KS.same (u := U) rfl q.2.2⟩
theorem aw_callV {y : MethodName} {M' : MT} {c ci idx : Nat} {av rest : List Value} {r : Option Value} {n1 : Nat} {R1 : Rg} {σ1 : Sg} (hd : decode M.2.1 pc = .ok (.invokevirtual idx, 3)) (hl0 : LV M.1 idx y M' av.length ci) (hm : AMc y M' (.ref c :: av) n R σ (r, n1, R1, σ1)) (hdep : M'.2.2.2.2 + 1 ≤ M.2.2.2.2) (hmx : M'.2.2.1 ≤ 60) (hc : c < n) (hs : (sh c).1 = ci) (h9 : ci < 9) (hn1 : n ≤ n1) (hn2 : n1 ≤ T.2.1) (hw8 : (rest.map fun v => v.category).sum ≤ 8) (hst : st = av.reverse ++ .ref c :: rest) (h : AW K M T (pc + 3) L (r.toList ++ rest) n1 R1 σ1) : AW K M T pc L st n R σ := by
  obtain ⟨⟨p, l, e, s, m⟩, ⟨args, below, meth, c0⟩, D, g, ext, base, n0, rm⟩ := K
  intro ok H locs ls hW hS hl
  obtain ⟨hx, hb, hre, hml, hown, hts, hKS, hlo, hbs, hn0, hnT, hF, hLo, hCe, hSl⟩ := id ok
  have q1 := szs_le hn0
  have q2 := szs_le hn1
  have q3 := szs_le hn2
  have hat := hW.2 c hc
  rw [cE_obj hs h9] at hat
  obtain ⟨Tb, N, hcl⟩ := hl0.2.2
  have hG : GoodIn wT (wsV M.1 idx y.cls y (Cond.code y M'.2.1 M'.2.2.1 M'.2.2.2.1 :: wT)) := gT fun w hw => by
    rcases List.mem_append.mp hw with h | h
    · exact hl0.1 w (List.mem_append_left _ h)
    · rcases List.mem_cons.mp h with h | h
      · exact hl0.1 w (List.mem_append_right _ (by rw [h]; exact List.mem_cons_self))
      · exact h
  have hr := va_runV (l := l) (e := e) (R := rm) (below := below) (meth := meth) (H := H) (locs := locs) (cells := n - n0) (slots := szs n - szs n0) (As := av.map (cv (base, ext))) (rest := rest.map (cv (base, ext))) (g := F0 m pc ls (st.map (cv (base, ext)))) ⟨hx, hb, hml, hown, hts⟩ (hm l D g ext base) (cwV av.length hts hG rfl rfl rfl ⟨rfl, hl0.2.1⟩ ⟨by show M'.2.2.2.2 + 1 ≤ rm.frames; omega, by show 8 + (M'.2.2.1 + 11) + 100 * M'.2.2.2.2 ≤ rm.locals; omega⟩)
    ⟨KS.blind, va_recv (q0 := 0) hKS.1 (va_P1 hat) hcl rfl, fun U hU hWm => ⟨rfl, by rw [hU]; exact hW, by rw [hU]; exact KS.moved hWm hKS hS.2.1⟩⟩ rfl (by simp) hl.1 (by subst hst; show List.map _ _ = _; rw [List.map_append, List.map_reverse]; rfl) (lv_room (by rw [cat_map]; exact hw8)) hd ⟨by show n - n0 + (n1 - n) ≤ rm.cells; omega, by show szs n - szs n0 + (szs n1 - szs n) ≤ rm.slots; omega⟩
  exact aw_fin (K0 := (p, l, e, s, m)) ok hW hS hl hn1 hn2 hr h
theorem LV5 {own : String} {idx : Nat} {y : MethodName} {cc : Cond} (h1 : Cond.methodLink own idx y ∈ wT) (h2 : Cond.instanceMethod y ∈ wT) (h3 : Cond.selects y.cls y y ∈ wT) (h4 : Cond.initialized y.cls ∈ wT) (h5 : cc ∈ wT) : ∀ w ∈ wsV own idx y.cls y [cc], w ∈ wT := by
  simp only [wsV, List.cons_append, List.nil_append, List.forall_mem_cons]
  exact ⟨h1, h2, h3, h4, h5, fun _ z => absurd z List.not_mem_nil⟩
theorem LS4 {own : String} {idx : Nat} {y : MethodName} {cc : Cond} (h1 : Cond.methodLink own idx y ∈ wT) (h2 : Cond.static y ∈ wT) (h4 : Cond.initialized y.cls ∈ wT) (h5 : cc ∈ wT) : ∀ w ∈ va_wsS own idx y [cc], w ∈ wT := by
  simp only [va_wsS, List.cons_append, List.nil_append, List.forall_mem_cons]
  exact ⟨h1, h2, h4, h5, fun _ z => absurd z List.not_mem_nil⟩
def LVS (own : String) (idx : Nat) (y : MethodName) (M' : MT) (na : Nat) : Prop := (∀ w ∈ va_wsS own idx y [Cond.code y M'.2.1 M'.2.2.1 M'.2.2.2.1], w ∈ wT) ∧ (y.cls ≠ "java/lang/invoke/MethodHandle" ∧ y.cls ≠ "java/lang/invoke/VarHandle" ∧ (parseMethodDescriptor y.desc).map (fun d => d.parameters.length) = some na)
theorem aw_callS {y : MethodName} {M' : MT} {idx : Nat} {av rest : List Value} {r : Option Value} {n1 : Nat} {R1 : Rg} {σ1 : Sg} (hd : decode M.2.1 pc = .ok (.invokestatic idx, 3)) (hl0 : LVS M.1 idx y M' av.length) (hm : AMc y M' av n R σ (r, n1, R1, σ1)) (hdep : M'.2.2.2.2 + 1 ≤ M.2.2.2.2) (hmx : M'.2.2.1 ≤ 60) (hn1 : n ≤ n1) (hn2 : n1 ≤ T.2.1) (hw8 : (rest.map fun v => v.category).sum ≤ 8) (hst : st = av.reverse ++ rest) (h : AW K M T (pc + 3) L (r.toList ++ rest) n1 R1 σ1) : AW K M T pc L st n R σ := by
  obtain ⟨⟨p, l, e, s, m⟩, ⟨args, below, meth, c0⟩, D, g, ext, base, n0, rm⟩ := K
  intro ok H locs ls hW hS hl
  obtain ⟨hx, hb, hre, hml, hown, hts, hKS, hlo, hbs, hn0, hnT, hF, hLo, hCe, hSl⟩ := id ok
  have q1 := szs_le hn0
  have q2 := szs_le hn1
  have q3 := szs_le hn2
  have hG : GoodIn wT (va_wsS M.1 idx y (Cond.code y M'.2.1 M'.2.2.1 M'.2.2.2.1 :: wT)) := gT fun w hw => by
    rcases List.mem_append.mp hw with h | h
    · exact hl0.1 w (List.mem_append_left _ h)
    · rcases List.mem_cons.mp h with h | h
      · exact hl0.1 w (List.mem_append_right _ (by rw [h]; exact List.mem_cons_self))
      · exact h
  have hr := va_runS (l := l) (e := e) (R := rm) (below := below) (meth := meth) (H := H) (locs := locs) (cells := n - n0) (slots := szs n - szs n0) (As := av.map (cv (base, ext))) (rest := rest.map (cv (base, ext))) (g := F0 m pc ls (st.map (cv (base, ext)))) ⟨hx, hb, hml, hown, hts⟩ (hm l D g ext base) (va_cwS av.length hts hG rfl rfl rfl hl0.2 ⟨by show M'.2.2.2.2 + 1 ≤ rm.frames; omega, by show 8 + (M'.2.2.1 + 11) + 100 * M'.2.2.2.2 ≤ rm.locals; omega⟩)
    ⟨KS.blind, fun U hU hWm => ⟨rfl, by rw [hU]; exact hW, by rw [hU]; exact KS.moved hWm hKS hS.2.1⟩⟩ rfl (by simp) hl.1 (by subst hst; show List.map _ _ = _; rw [List.map_append, List.map_reverse]) (lv_room (by rw [cat_map]; exact hw8)) hd ⟨by show n - n0 + (n1 - n) ≤ rm.cells; omega, by show szs n - szs n0 + (szs n1 - szs n) ≤ rm.slots; omega⟩
  exact aw_fin (K0 := (p, l, e, s, m)) ok hW hS hl hn1 hn2 hr h
/-- a private static method of a nest mate -/
def LN (own : String) (idx : Nat) (y : MethodName) (M' : MT) (na : Nat) : Prop := (∀ w ∈ ([.static y, .initialized y.cls, Cond.code y M'.2.1 M'.2.2.1 M'.2.2.2.1] : List Cond), w ∈ wT) ∧ (y.cls ≠ "java/lang/invoke/MethodHandle" ∧ y.cls ≠ "java/lang/invoke/VarHandle" ∧ (parseMethodDescriptor y.desc).map (fun d => d.parameters.length) = some na) ∧ ∃ host, Cond.methodLinkNest own idx y host ∈ nestW
theorem aw_callSN {y : MethodName} {M' : MT} {idx : Nat} {av rest : List Value} {r : Option Value} {n1 : Nat} {R1 : Rg} {σ1 : Sg} (hd : decode M.2.1 pc = .ok (.invokestatic idx, 3)) (hl0 : LN M.1 idx y M' av.length) (hm : AMc y M' av n R σ (r, n1, R1, σ1)) (hdep : M'.2.2.2.2 + 1 ≤ M.2.2.2.2) (hmx : M'.2.2.1 ≤ 60) (hn1 : n ≤ n1) (hn2 : n1 ≤ T.2.1) (hw8 : (rest.map fun v => v.category).sum ≤ 8) (hst : st = av.reverse ++ rest) (h : AW K M T (pc + 3) L (r.toList ++ rest) n1 R1 σ1) : AW K M T pc L st n R σ := by
  obtain ⟨⟨p, l, e, s, m⟩, ⟨args, below, meth, c0⟩, D, g, ext, base, n0, rm⟩ := K
  intro ok H locs ls hW hS hl
  obtain ⟨hx, hb, hre, hml, hown, hts, hKS, hlo, hbs, hn0, hnT, hF, hLo, hCe, hSl⟩ := id ok
  have q1 := szs_le hn0
  have q2 := szs_le hn1
  have q3 := szs_le hn2
  obtain ⟨host, hnest⟩ := hl0.2.2
  have hG : GoodIn wT (Cond.code y M'.2.1 M'.2.2.1 M'.2.2.2.1 :: wT) := gT fun w hw => by
    rcases List.mem_cons.mp hw with h | h
    · exact hl0.1 w (by rw [h]; simp)
    · exact h
  have hr := va_runSN (l := l) (e := e) (R := rm) (below := below) (meth := meth) (H := H) (locs := locs) (cells := n - n0) (slots := szs n - szs n0) (As := av.map (cv (base, ext))) (rest := rest.map (cv (base, ext))) (g := F0 m pc ls (st.map (cv (base, ext)))) (Ts := wT) ⟨hx, hb, hml, hown, hts⟩ (hm l D g ext base) ⟨va_cnB av.length hts hG rfl rfl rfl (hKS.2.2.2.1 _ hnest) (hts _ (hl0.1 _ (by simp))) hl0.2.1 ⟨by show M'.2.2.2.2 + 1 ≤ rm.frames; omega, by show 8 + (M'.2.2.1 + 11) + 100 * M'.2.2.2.2 ≤ rm.locals; omega⟩, hts _ (hl0.1 _ (by simp)), trivial⟩
    ⟨KS.blind, fun U hU hWm => ⟨rfl, by rw [hU]; exact hW, by rw [hU]; exact KS.moved hWm hKS hS.2.1⟩⟩ rfl (by simp) hl.1 (by subst hst; show List.map _ _ = _; rw [List.map_append, List.map_reverse]) (lv_room (by rw [cat_map]; exact hw8)) hd ⟨by show n - n0 + (n1 - n) ≤ rm.cells; omega, by show szs n - szs n0 + (szs n1 - szs n) ≤ rm.slots; omega⟩
  exact aw_fin (K0 := (p, l, e, s, m)) ok hW hS hl hn1 hn2 hr h
/-! statics, constants, the library's methods -/
theorem aw_ldc {idx : Nat} {v : Int32} (hd : decode M.2.1 pc = .ok (.ldc idx, 2)) (hc : Cond.constant M.1 idx v ∈ wT) (h : AW K M T (pc + 2) L (.int v :: st) n R σ) : AW K M T pc L st n R σ := by
  obtain ⟨⟨p, l, e, s, m⟩, ⟨args, below, meth, c0⟩, D, g, ext, base, n0, rm⟩ := K
  intro ok H locs ls hW hS hl
  obtain ⟨hx, hb, hre, hml, hown, hts, hKS, hlo, hbs, hn0, hnT, hF, hLo, hCe, hSl⟩ := id ok
  exact lv_ldc hx hb hown (hts _ hc) hd (h ok H locs ls hW hS hl)
theorem aw_ldc2 {idx : Nat} {v : Int64} (hd : decode M.2.1 pc = .ok (.ldc2_w idx, 3)) (hc : Cond.constantLong M.1 idx v ∈ wT) (h : AW K M T (pc + 3) L (.long v :: st) n R σ) : AW K M T pc L st n R σ := by
  obtain ⟨⟨p, l, e, s, m⟩, ⟨args, below, meth, c0⟩, D, g, ext, base, n0, rm⟩ := K
  intro ok H locs ls hW hS hl
  obtain ⟨hx, hb, hre, hml, hown, hts, hKS, hlo, hbs, hn0, hnT, hF, hLo, hCe, hSl⟩ := id ok
  exact lv_ldc2 hx hb hown (hts _ hc) hd (h ok H locs ls hW hS hl)
theorem aw_gstat {idx : Nat} (hd : decode M.2.1 pc = .ok (.getstatic idx, 3)) (hlk : (Cond.fieldLink M.1 idx "SheepChess" "WORTHS" "[I" ∈ wT) ∨ ∃ host, Cond.fieldLinkNest M.1 idx "SheepChess" "WORTHS" "[I" host ∈ nestW) (h : AW K M T (pc + 3) L (.retAddr 0 :: st) n R σ) : AW K M T pc L st n R σ := by
  obtain ⟨⟨p, l, e, s, m⟩, ⟨args, below, meth, c0⟩, D, g, ext, base, n0, rm⟩ := K
  intro ok H locs ls hW hS hl
  obtain ⟨hx, hb, hre, hml, hown, hts, hKS, hlo, hbs, hn0, hnT, hF, hLo, hCe, hSl⟩ := id ok
  rcases hlk with hlk | ⟨host, hlk⟩
  · exact va_gets hx hb hKS.2.1 hS hown (hts _ hlk) (fun _ z => z) hd (h ok H locs ls hW hS hl)
  · exact va_getsN hx hb hKS.2.1 hS hown (va_Nw.use rfl (hKS.2.2.2.1 _ hlk)) (fun _ z => z) hd (h ok H locs ls hW hS hl)
theorem aw_tlen (hd : decode M.2.1 pc = .ok (.arraylength, 1)) (h : AW K M T (pc + 1) L (.int 4 :: st) n R σ) : AW K M T pc L (.retAddr 0 :: st) n R σ := by
  obtain ⟨⟨p, l, e, s, m⟩, ⟨args, below, meth, c0⟩, D, g, ext, base, n0, rm⟩ := K
  intro ok H locs ls hW hS hl
  obtain ⟨hx, hb, hre, hml, hown, hts, hKS, hlo, hbs, hn0, hnT, hF, hLo, hCe, hSl⟩ := id ok
  exact va_tlen hx hb hKS.2.2.1 hS (v := 4) rfl hd (h ok H locs ls hW hS hl)
theorem aw_tld {i : Int32} (hd : decode M.2.1 pc = .ok (.iaload, 1)) (hi : inb i 4 = true) (h : AW K M T (pc + 1) L (.int (wsI i.toNatClampNeg) :: st) n R σ) : AW K M T pc L (.int i :: .retAddr 0 :: st) n R σ := by
  obtain ⟨⟨p, l, e, s, m⟩, ⟨args, below, meth, c0⟩, D, g, ext, base, n0, rm⟩ := K
  intro ok H locs ls hW hS hl
  obtain ⟨hx, hb, hre, hml, hown, hts, hKS, hlo, hbs, hn0, hnT, hF, hLo, hCe, hSl⟩ := id ok
  exact va_ti hx hb hKS.2.2.1 hS (inb_vp hi) rfl hd (h ok H locs ls hW hS hl)
/-- Math.abs -/
def absI (x : Int32) : Int32 := if 0 ≤ x then x else 0 - x
theorem aw_abs {idx : Nat} {x : Int32} (hd : decode M.2.1 pc = .ok (.invokestatic idx, 3)) (hlk : ∀ w ∈ ([Cond.methodLink M.1 idx Lib.Math.abs.name, Cond.static Lib.Math.abs.name, Cond.initialized "java/lang/Math", Cond.code Lib.Math.abs.name Lib.Math.abs.code 1 (some .int)] : List Cond), w ∈ wT) (hdep : 1 ≤ M.2.2.2.2) (hw8 : (st.map fun v => v.category).sum ≤ 8) (h : AW K M T (pc + 3) L (.int (absI x) :: st) n R σ) : AW K M T pc L (.int x :: st) n R σ := by
  obtain ⟨⟨p, l, e, s, m⟩, ⟨args, below, meth, c0⟩, D, g, ext, base, n0, rm⟩ := K
  intro ok H locs ls hW hS hl
  obtain ⟨hx, hb, hre, hml, hown, hts, hKS, hlo, hbs, hn0, hnT, hF, hLo, hCe, hSl⟩ := id ok
  have q1 := szs_le hnT
  exact va_mabs hx hb (hml.trans hl.1.symm) hown (hts _ (hlk _ (by simp))) (hts _ (hlk _ (by simp))) (hts _ (hlk _ (by simp))) (hts _ (hlk _ (by simp))) (by show 1 ≤ rm.frames; omega) (by rw [cat_map]; show _ ≤ rm.locals; omega) (by show n - n0 ≤ rm.cells; omega) (by show szs n - szs n0 ≤ rm.slots; omega) hd (h ok H locs ls hW hS hl)
/-- a whole array copied -/
def upc (σ : Sg) (c d : Nat) : Sg := fun a j => if a = c then σ d j else σ a j
theorem arrV_ext {cI : ClassId} {N : Nat} {f g : Nat → Value} (h : ∀ j, j < N → f j = g j) : arrV cI N f = arrV cI N g := by
  unfold arrV
  congr 2
  funext j
  exact h j.val j.isLt
theorem aw_acopy {idx a0 a1 len : Nat} {z1 z2 nn : Int32} (hd : decode M.2.1 pc = .ok (.invokestatic idx, 3)) (hlk : ∀ w ∈ ([Cond.methodLink M.1 idx arraycopyName, Cond.native arraycopyName, Cond.static arraycopyName, Cond.initialized "java/lang/System"] : List Cond), w ∈ wT) (hc0 : a0 < n) (hc1 : a1 < n) (hs0 : sh a0 = (9, len)) (hs1 : sh a1 = (9, len)) (hz1 : z1 = 0) (hz2 : z2 = 0) (hn1 : ¬ nn < 0) (hn2 : nn.toNatClampNeg = len) (hdep : 1 ≤ M.2.2.2.2) (hw8 : (st.map fun v => v.category).sum ≤ 8) (h : AW K M T (pc + 3) L st n R (upc σ a1 a0)) : AW K M T pc L (.int nn :: .int z2 :: .ref a1 :: .int z1 :: .ref a0 :: st) n R σ := by
  obtain ⟨⟨p, l, e, s, m⟩, ⟨args, below, meth, c0⟩, D, g, ext, base, n0, rm⟩ := K
  intro ok H locs ls hW hS hl
  obtain ⟨hx, hb, hre, hml, hown, hts, hKS, hlo, hbs, hn0, hnT, hF, hLo, hCe, hSl⟩ := id ok
  subst hz1; subst hz2
  have g0 := hW.2 a0 hc0
  have g1 := hW.2 a1 hc1
  rw [cE_int hs0] at g0
  rw [cE_int hs1] at g1
  have g0 : H[base + a0]? = some (vp_cell g.1 (len, .inl (σ a0))) := g0
  have g1 : H[base + a1]? = some (vp_cell g.1 (len, .inl (σ a1))) := g1
  have zz : (0 : Int32).toNatClampNeg = 0 := by decide
  have hnf : nativeFrameWords "java/lang/System" "arraycopy" 5 + 11 ≤ 60 := by decide +kernel
  have nn0 : nn.toInt = (len : Int) := by
    have hz0 : (0 : Int) ≤ nn.toInt := by
      have := Int32.not_lt.mp hn1
      simpa using Int32.le_iff_toInt_le.mp this
    rw [← hn2]
    show nn.toInt = ((nn.toInt.toNat : Nat) : Int)
    omega
  have fin : ∀ (H1 : Heap) (locs1 : List Loc), H1[base + a1]? = some (vp_cell g.1 (len, .inl (σ a0))) → H1.size = H.size → (∀ q, q ≠ base + a1 → H1[q]? = H[q]?) → va_S (fun q => base ≤ q) s.heap H1 locs1 → W p l e rm s m args below meth c0 H1 locs1 (n - n0) (szs n - szs n0) (MQ below (QC D g base ext T) args s (T.2.1 - n0) (szs T.2.1 - szs n0) (fun q => base ≤ q)) (F0 m (pc + 3) ls (st.map (cv (base, ext)))) := by
    intro H1 locs1 e1 e2 e3 hS1
    refine h ok H1 _ ls (hW.put e2 e3 (fun a ha => by funext j; simp [upc, ha]) (fun _ _ => rfl) ?_) hS1 hl
    rw [cE_int hs1]
    have eu : upc σ a1 a0 a1 = σ a0 := by
      funext j
      simp [upc]
    rw [eu]
    exact e1
  intro T0 hT0 X
  obtain ⟨-, k0, hk0, cm0, hkk0⟩ := (hKS.1.2 0 _ rfl).1 len (fun j => .int (σ a0 j))
  obtain ⟨-, k1, hk1, cm1, hkk1⟩ := (hKS.1.2 0 _ rfl).1 len (fun j => .int (σ a1 j))
  obtain ⟨vm', X', step⟩ := X.arraycopy (index := idx) hx hown (hts _ (hlk (Cond.methodLink M.1 idx arraycopyName) (by simp))) (hts _ (hlk (Cond.native arraycopyName) (by simp))) (hts _ (hlk (Cond.static arraycopyName) (by simp))) (hts _ (hlk (Cond.initialized "java/lang/System") (by simp))) (src := base + a0) (dst := base + a1) (cs := vp_cell g.1 (len, .inl (σ a0))) (cd := vp_cell g.1 (len, .inl (σ a1))) (srcPos := 0) (destPos := 0) (n := nn) (by rw [hT0]; exact g0) (by rw [hT0]; exact g1)
    (fun _ h => by cases h) (fun _ h => by cases h) (fun h => by cases h) (fun h => by cases h) hk0 hk1 hkk0 hkk1 (by simp) (by decide) (by decide) hn1
    (by rw [nn0]; show ¬ _ > ((arrV g.1 len (fun j => .int (σ a0 j))).slots.size : Int); rw [arrV_size]; simp)
    (by rw [nn0]; show ¬ _ > ((arrV g.1 len (fun j => .int (σ a1 j))).slots.size : Int); rw [arrV_size]; simp)
    (fun vm₁ _ i hi => by
      have e : (vp_cell g.1 (len, .inl (σ a0))).slots.getD ((0 : Int32).toNatClampNeg + i) .null = .int (σ a0 ((0 : Int32).toNatClampNeg + i)) := by
        show (arrV g.1 len (fun j => .int (σ a0 j))).slots.getD _ _ = _
        rw [Array.getD_eq_getD_getElem?, arrV_read _ _ (by rw [zz]; omega)]
        rfl
      refine ⟨?_, ?_⟩
      · rw [e]
        rfl
      · rw [e]
        exact trivial)
    (g := F0 m pc ls (.int nn :: .int 0 :: .ref (base + a1) :: .int 0 :: .ref (base + a0) :: st.map (cv (base, ext)))) rfl (by rw [hml]; exact hl.1) (rest := st.map (cv (base, ext))) rfl (by rw [hb]; exact hd) (by show 1 ≤ rm.frames; omega) (by rw [cat_map]; show 2 * 0 + _ + (nativeFrameWords "java/lang/System" "arraycopy" 5 + 11) ≤ rm.locals; omega)
  have e1 : copied (vp_cell g.1 (len, .inl (σ a0))) (vp_cell g.1 (len, .inl (σ a1))) 0 0 nn = vp_cell g.1 (len, .inl (σ a0)) := by
    have z := va_copied (n0 := len) (n1 := len) (sp := 0) (dp := 0) (n := len) (fun z => Value.int z) g.1 g.1 (σ a0) (σ a1) (by omega)
    have z2 : copied (vp_cell g.1 (len, .inl (σ a0))) (vp_cell g.1 (len, .inl (σ a1))) 0 0 nn = arrV g.1 len (fun j => .int (va_cpy (σ a0) (σ a1) 0 0 len j)) := by
      rw [← z]
      show Cell.storeRun _ (0 : Int32).toNatClampNeg (Cell.stretch _ (0 : Int32).toNatClampNeg nn.toNatClampNeg) = _
      rw [zz, hn2]
      rfl
    rw [z2]
    rw [vp_cell_i]
    exact arrV_ext (fun j hj => by simp [va_cpy, hj])
  rw [e1] at X' step
  have hl2 : base + a1 < H.size := (Array.getElem?_eq_some_iff.mp g1).1
  have hheap : ((T0.setVm vm').setCell (base + a1) (vp_cell g.1 (len, .inl (σ a0)))).heap = H.setIfInBounds (base + a1) (vp_cell g.1 (len, .inl (σ a0))) := by rw [← hT0]; rfl
  have oq : ∀ q : Nat, q ≠ base + a1 → (H.setIfInBounds (base + a1) (vp_cell g.1 (len, .inl (σ a0))))[q]? = H[q]? := fun q hq => by simp [Array.getElem?_setIfInBounds, Ne.symm hq]
  obtain ⟨t, b1, b2⟩ := fin _ _ (by simp [Array.getElem?_setIfInBounds, hl2]) (by simp) oq ⟨by simp; exact hS.1, fun q g1 g2 => by
      rw [oq q (fun e => g2 (by show base ≤ q; omega))]
      exact hS.2.1 q g1 g2, fun q hq => by
      rcases List.mem_append.mp hq with h | h
      · exact hS.2.2 q h
      · obtain ⟨z, -, hz⟩ := List.mem_map.mp h
        rw [← hz]
        exact Nat.le_add_right _ _⟩ _ hheap X'
  exact ⟨t, step t b1, b2⟩
theorem aw_ifnn {x tgt : Nat} {off : Int} (hd : decode M.2.1 pc = .ok (.ifnonnull off, 3)) (ht : (pc : Int) + off = (tgt : Int)) (h : AW K M T tgt L st n R σ) : AW K M T pc L (.ref x :: st) n R σ := by
  obtain ⟨⟨p, l, e, s, m⟩, ⟨args, below, meth, c0⟩, D, g, ext, base, n0, rm⟩ := K
  intro ok H locs ls hW hS hl
  exact lv_ifnonnull ok.1 ok.2.1 hd ht (h ok H locs ls hW hS hl)
/-! switches -/
theorem aw_tin {x k : Int32} {dflt lo hi off : Int} {offs : Array Int} {len tgt : Nat} (hd : decode M.2.1 pc = .ok (.tableswitch dflt lo hi offs, len)) (hx : x = k) (h1 : ¬ k.toInt < lo) (h2 : ¬ hi < k.toInt) (ho : offs[(k.toInt - lo).toNat]? = some off) (ht : (pc : Int) + off = (tgt : Int)) (h : AW K M T tgt L st n R σ) : AW K M T pc L (.int x :: st) n R σ := by
  subst hx
  obtain ⟨⟨p, l, e, s, m⟩, ⟨args, below, meth, c0⟩, D, g, ext, base, n0, rm⟩ := K
  intro ok H locs ls hW hS hl
  exact lv_tableIn ok.1 ok.2.1 hd h1 h2 ho ht (h ok H locs ls hW hS hl)
theorem aw_tout {x : Int32} {dflt lo hi : Int} {offs : Array Int} {len tgt : Nat} (hd : decode M.2.1 pc = .ok (.tableswitch dflt lo hi offs, len)) (hx : x.toInt < lo ∨ hi < x.toInt) (ht : (pc : Int) + dflt = (tgt : Int)) (h : AW K M T tgt L st n R σ) : AW K M T pc L (.int x :: st) n R σ := by
  obtain ⟨⟨p, l, e, s, m⟩, ⟨args, below, meth, c0⟩, D, g, ext, base, n0, rm⟩ := K
  intro ok H locs ls hW hS hl
  exact lv_tableOut ok.1 ok.2.1 hd hx ht (h ok H locs ls hW hS hl)
theorem aw_lsw {x : Int32} {dflt off : Int} {ps : Array (Int × Int)} {len tgt : Nat} (hd : decode M.2.1 pc = .ok (.lookupswitch dflt ps, len)) (hp : (ps.toList.zip (ps.toList.drop 1)).all (fun (a, next) => a.1 < next.1) = true) (ho : Op.lookupswitch.offset ps.toList dflt x.toInt = off) (ht : (pc : Int) + off = (tgt : Int)) (h : AW K M T tgt L st n R σ) : AW K M T pc L (.int x :: st) n R σ := by
  obtain ⟨⟨p, l, e, s, m⟩, ⟨args, below, meth, c0⟩, D, g, ext, base, n0, rm⟩ := K
  intro ok H locs ls hW hS hl
  exact lv_lookup ok.1 ok.2.1 hd hp ho ht (h ok H locs ls hW hS hl)
end RET

