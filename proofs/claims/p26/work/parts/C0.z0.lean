/-! constructors that make arrays of meadows, and a char of a text: what the tables say of that class and of one static goes along -/
def XO (ext : Nat → Nat) (base : Nat) (U : State) (H : Heap) : Prop := va_AO RX2 U ∧ (va_Z "jdk/internal/util/Preconditions" "SIOOBE_FORMATTER" "Ljava/util/function/BiFunction;" .null (fun q => base ≤ q) U H ∨ va_Z "jdk/internal/util/Preconditions" "SIOOBE_FORMATTER" "Ljava/util/function/BiFunction;" (.ref (ext 4)) (fun q => base ≤ q) U H)
theorem XO.moved {ext : Nat → Nat} {base : Nat} {u U : State} {H H1 : Heap} (hW : u.WarmedH U.vm) (h : XO ext base u H) (hq : ∀ a : Nat, a < H.size → ¬ base ≤ a → H1[a]? = H[a]?) : XO ext base U H1 := ⟨va_AO.moved hW.alike h.1, h.2.imp (fun z => (va_Z.moved hW.alike z).kept hq) (fun z => (va_Z.moved hW.alike z).kept hq)⟩
theorem XO.same {ext : Nat → Nat} {base : Nat} {u U : State} {H : Heap} (hv : u.vm = U.vm) (h : XO ext base u H) : XO ext base U H :=
  have ha : u.vm.Alike U.vm := by rw [hv]; exact Vm.Alike.refl U.vm
  ⟨va_AO.moved ha h.1, h.2.imp (fun z => va_Z.moved ha z) (fun z => va_Z.moved ha z)⟩
def KO (K : KT) : Prop := match K with
  | ((_, _, _, s, _), _, _, _, ext, base, _) => XO ext base s s.heap
def AMo (y : MethodName) (M : MT) (av : List Value) (n : Nat) (R : Rg) (σ : Sg) (T : TT) : Prop := ∀ (l : Launch) (D : va_G) (g : CG) (ext : Nat → Nat) (base : Nat),
  Met l y (.code y M.2.1 M.2.2.1 M.2.2.2.1 :: wT) (roomOf M.2.2.2.2 n T.2.1) (va_Pc (av.map (cv (base, ext))) (fun U => WD D g base n R σ U.heap ∧ KS D g ext base U U.heap ∧ XO ext base U U.heap)) (QC D g base ext T) (T.2.1 - n) (szs T.2.1 - szs n) (fun q => base ≤ q)
section CTORO
variable {K : KT} {M : MT} {T : TT} {pc : Nat} {L : List (Option Value)} {st : List Value} {n : Nat} {R : Rg} {σ : Sg}
theorem KSo.blind {D : va_G} {g : CG} {ext : Nat → Nat} {base : Nat} {av : List Value} : FrameBlind (va_Pc av (fun U => WD D g base n R σ U.heap ∧ KS D g ext base U U.heap ∧ XO ext base U U.heap)) := fun _ U _ _ q => ⟨q.1, q.2.1, KS.same (u := U) rfl q.2.2.1, XO.same (u := U) rfl q.2.2.2⟩
theorem aw_anewO {idx len : Nat} {nn : Int32} (hd : decode M.2.1 pc = .ok (.anewarray idx, 3)) (hcl : Cond.classLink M.1 idx RX2 ∈ wT) (hO : KO K) (hs : sh n = (11, len)) (hr : ∀ k, R n k = none) (hn1 : ¬ nn < 0) (hn2 : nn.toNatClampNeg = len) (hb4 : len * 4 ≤ 536870912) (hn : n + 1 ≤ T.2.1) (h : AW K M T (pc + 3) L (.ref n :: st) (n + 1) R σ) : AW K M T pc L (.int nn :: st) n R σ := by
  subst hn2
  obtain ⟨⟨p, l, e, s, m⟩, ⟨args, below, meth, c0⟩, D, g, ext, base, n0, rm⟩ := K
  intro ok H locs ls hW hS hl
  obtain ⟨hx, hb, hre, hml, hown, hts, hKS, hlo, hbs, hn0, hnT, hF, hLo, hCe, hSl⟩ := id ok
  have q1 := szs_le hn0
  have q2 := szs_le hn
  have e2 : csz n = nn.toNatClampNeg := by
    unfold csz
    rw [hs]
    rfl
  have e3 : szs (n + 1) = szs n + csz n := rfl
  have hce : n - n0 + 1 ≤ rm.cells := by omega
  have hse : szs n - szs n0 + nn.toNatClampNeg ≤ rm.slots := by omega
  refine W.anew (g := F0 m pc ls ((.int nn :: st).map (cv (base, ext)))) hx hb hown (hts _ hcl) (hO.1.use) rfl hd rfl hn1 hb4 hce hse fun cA kA comp f1 f2 f3 f4 => ?_
  generalize hH1 : H.push ({ cls := cA, slots := Array.replicate nn.toNatClampNeg .null, vm := .none } : Cell) = H1
  have z1 : H1.size = H.size + 1 := by rw [← hH1, Array.size_push]
  have e1 : H1[H.size]? = some (arrV cA nn.toNatClampNeg (fun _ => .null)) := by rw [← hH1, Array.getElem?_push_size, ← arrV_new]
  have o1 : ∀ q : Nat, q < H.size → H1[q]? = H[q]? := fun q hq => by rw [← hH1, Array.getElem?_push, if_neg (Nat.ne_of_lt hq)]
  obtain ⟨_, _, _, _, _, g4⟩ := (hKS.1.2 2 _ rfl).2
  have hcA : cA = g.2.2 := Option.some.inj (f1.symm.trans g4)
  subst hcA
  have c1 : n - n0 + 1 = n + 1 - n0 := by omega
  have c2 : szs n - szs n0 + nn.toNatClampNeg = szs (n + 1) - szs n0 := by omega
  have hH : H.size = base + n := hW.1
  rw [c1, c2, hH]
  rw [hH] at e1
  refine h ⟨hx, hb, hre, hml, hown, hts, hKS, hlo, hbs, by omega, hn, hF, hLo, hCe, hSl⟩ H1 locs ls (hW.push z1 o1 ?_) (hS.push z1 o1) hl
  rw [cE_mdw hs]
  show H1[base + n]? = some (vp_cell _ _)
  rw [e1, vp_cell_q]
  congr 1
  exact arrV_ext (fun j _ => by rw [hr]; rfl)
theorem AMo.ofI {y : MethodName} {av : List Value} (hy : plainName y.cls = true) (hM : y.cls = M.1) (hyn : y.name = "<init>") (hlv : ∀ bt, lvA bt 0 L = lv_args 0 (av.map (cv bt))) (hle : ∀ bt, (lg_sl (av.map (cv bt))).length ≤ M.2.2.1) (hn : n ≤ T.2.1) (h : ∀ K, KI K → KO K → AW K M T 0 L [] n R σ) : AMo y M av n R σ T := by
  intro l D g ext base
  refine Met.ofW (cc := M.2.1) (maxL := M.2.2.1) (ret := M.2.2.2.1) hy rfl ?_
  intro p e s m args below meth c s₁ B hml hv
  obtain ⟨rfl, hWD, hKS, hAO⟩ := hv
  have hts0 := atoms_spec (ws := Cond.code y M.2.1 M.2.2.1 M.2.2.2.1 :: wT) B.pre
  have hl := lv_entry (av.map (cv (base, ext))) (n := M.2.2.1) (hle (base, ext))
  rw [← hlv] at hl
  rw [lg_entry_eq]
  have hb : base ≤ s.heap.size := by rw [hWD.1]; omega
  have hown : s.vm.findClass M.1 = some m.cls := by rw [← hM]; exact findClass_of_methodNamed B.named
  have z := h ((p, l, e, s, m), ((av.map (cv (base, ext))).toArray, below, meth, c), D, g, ext, base, n, roomOf M.2.2.2.2 n T.2.1) ((name_of_methodNamed B.named B.method).1.trans hyn) hAO ⟨B.exec, B.bytes, B.returns, hml, hown, fun w hw => hts0 w (List.mem_cons_of_mem _ hw), hKS, B.notSynchronized, hb, Nat.le_refl _, hn, Nat.le_refl _, Nat.le_refl _, Nat.le_refl _, Nat.le_refl _⟩ s.heap [] _ hWD va_S.rf hl
  rw [Nat.sub_self, Nat.sub_self] at z
  exact z
theorem AMo.ofF {y : MethodName} {av : List Value} (hy : plainFor y = true) (hM : y.cls = M.1) (hlv : ∀ bt, lvA bt 0 L = lv_args 0 (av.map (cv bt))) (hle : ∀ bt, (lg_sl (av.map (cv bt))).length ≤ M.2.2.1) (hn : n ≤ T.2.1) (h : ∀ K, KO K → AW K M T 0 L [] n R σ) : AMo y M av n R σ T := by
  intro l D g ext base
  refine Met_ofF (cc := M.2.1) (maxL := M.2.2.1) (ret := M.2.2.2.1) hy rfl ?_
  intro p e s m args below meth c s₁ B hml hv
  obtain ⟨rfl, hWD, hKS, hAO⟩ := hv
  have hts0 := atoms_spec (ws := Cond.code y M.2.1 M.2.2.1 M.2.2.2.1 :: wT) B.pre
  have hl := lv_entry (av.map (cv (base, ext))) (n := M.2.2.1) (hle (base, ext))
  rw [← hlv] at hl
  rw [lg_entry_eq]
  have hb : base ≤ s.heap.size := by rw [hWD.1]; omega
  have hown : s.vm.findClass M.1 = some m.cls := by rw [← hM]; exact findClass_of_methodNamed B.named
  have z := h ((p, l, e, s, m), ((av.map (cv (base, ext))).toArray, below, meth, c), D, g, ext, base, n, roomOf M.2.2.2.2 n T.2.1) hAO ⟨B.exec, B.bytes, B.returns, hml, hown, fun w hw => hts0 w (List.mem_cons_of_mem _ hw), hKS, B.notSynchronized, hb, Nat.le_refl _, hn, Nat.le_refl _, Nat.le_refl _, Nat.le_refl _, Nat.le_refl _⟩ s.heap [] _ hWD va_S.rf hl
  rw [Nat.sub_self, Nat.sub_self] at z
  exact z
theorem aw_callO {y : MethodName} {M' : MT} {c idx : Nat} {av rest : List Value} {n1 : Nat} {R1 : Rg} {σ1 : Sg} (hd : decode M.2.1 pc = .ok (.invokespecial idx, 3)) (hl0 : LI M.1 idx y M' av.length) (hO : KO K) (hm : AMo y M' (.ref c :: av) n R σ (none, n1, R1, σ1)) (hdep : M'.2.2.2.2 + 1 ≤ M.2.2.2.2) (hmx : M'.2.2.1 ≤ 60) (hn1 : n ≤ n1) (hn2 : n1 ≤ T.2.1) (hw8 : (rest.map fun v => v.category).sum ≤ 8) (hst : st = av.reverse ++ .ref c :: rest) (h : AW K M T (pc + 3) L rest n1 R1 σ1) : AW K M T pc L st n R σ := by
  obtain ⟨⟨p, l, e, s, m⟩, ⟨args, below, meth, c0⟩, D, g, ext, base, n0, rm⟩ := K
  intro ok H locs ls hW hS hl
  obtain ⟨hx, hb, hre, hml, hown, hts, hKS, hlo, hbs, hn0, hnT, hF, hLo, hCe, hSl⟩ := id ok
  have q1 := szs_le hn0
  have q2 := szs_le hn1
  have q3 := szs_le hn2
  obtain ⟨hw0, hyn, hrn, hpd⟩ := hl0
  have hm2 := hm l D g ext base
  rw [hrn] at hm2 hw0
  have hG : GoodIn wT (Cond.code y M'.2.1 M'.2.2.1 none :: wT) := gT fun w hw => by
    rcases List.mem_cons.mp hw with h | h
    · exact hw0 w (by rw [h]; simp)
    · exact h
  have hr := va_runI (l := l) (e := e) (R := rm) (below := below) (meth := meth) (H := H) (locs := locs) (cells := n - n0) (slots := szs n - szs n0) (As := av.map (cv (base, ext))) (rest := rest.map (cv (base, ext))) (g := F0 m pc ls (st.map (cv (base, ext)))) ⟨hx, hb, hml, hown, hts⟩ hm2 (cwI av.length hts hG rfl rfl rfl (hts _ (hw0 _ (by simp))) (hts _ (hw0 _ (by simp))) (hts _ (hw0 _ (by simp))) hyn hpd ⟨by show M'.2.2.2.2 + 1 ≤ rm.frames; omega, by show 8 + (M'.2.2.1 + 11) + 100 * M'.2.2.2.2 ≤ rm.locals; omega⟩)
    ⟨KSo.blind, fun U hU hWm => ⟨rfl, (by rw [hU]; exact hW), (by rw [hU]; exact KS.moved hWm hKS hS.2.1), (by rw [hU]; exact XO.moved hWm hO hS.2.1)⟩⟩ rfl (by simp) hl.1 (by subst hst; show List.map _ _ = _; rw [List.map_append, List.map_reverse]; rfl) (lv_room (by rw [cat_map]; exact hw8)) hd ⟨by show n - n0 + (n1 - n) ≤ rm.cells; omega, by show szs n - szs n0 + (szs n1 - szs n) ≤ rm.slots; omega⟩
  exact aw_fin (K0 := (p, l, e, s, m)) (r := none) ok hW hS hl hn1 hn2 hr h
theorem aw_callSO {y : MethodName} {M' : MT} {idx : Nat} {av rest : List Value} {r : Option Value} {n1 : Nat} {R1 : Rg} {σ1 : Sg} (hd : decode M.2.1 pc = .ok (.invokestatic idx, 3)) (hl0 : LVS M.1 idx y M' av.length) (hO : KO K) (hm : AMo y M' av n R σ (r, n1, R1, σ1)) (hdep : M'.2.2.2.2 + 1 ≤ M.2.2.2.2) (hmx : M'.2.2.1 ≤ 60) (hn1 : n ≤ n1) (hn2 : n1 ≤ T.2.1) (hw8 : (rest.map fun v => v.category).sum ≤ 8) (hst : st = av.reverse ++ rest) (h : AW K M T (pc + 3) L (r.toList ++ rest) n1 R1 σ1) : AW K M T pc L st n R σ := by
  obtain ⟨⟨p, l, e, s, m⟩, ⟨args, below, meth, c0⟩, D, g, ext, base, n0, rm⟩ := K
  intro ok H locs ls hW hS hl
  obtain ⟨hx, hb, hre, hml, hown, hts, hKS, hlo, hbs, hn0, hnT, hF, hLo, hCe, hSl⟩ := id ok
  have q1 := szs_le hn0
  have q2 := szs_le hn1
  have q3 := szs_le hn2
  have hG : GoodIn wT (va_wsS M.1 idx y (Cond.code y M'.2.1 M'.2.2.1 M'.2.2.2.1 :: wT)) := gT fun w hw => by
    rcases List.mem_append.mp hw with h | h
    · exact hl0.1 w (List.mem_append_left _ h)
    · rcases List.mem_cons.mp h with h | h
      · exact hl0.1 w (List.mem_append_right _ (by rw [h]; exact List.mem_cons_self))
      · exact h
  have hr := va_runS (l := l) (e := e) (R := rm) (below := below) (meth := meth) (H := H) (locs := locs) (cells := n - n0) (slots := szs n - szs n0) (As := av.map (cv (base, ext))) (rest := rest.map (cv (base, ext))) (g := F0 m pc ls (st.map (cv (base, ext)))) ⟨hx, hb, hml, hown, hts⟩ (hm l D g ext base) (va_cwS av.length hts hG rfl rfl rfl hl0.2 ⟨by show M'.2.2.2.2 + 1 ≤ rm.frames; omega, by show 8 + (M'.2.2.1 + 11) + 100 * M'.2.2.2.2 ≤ rm.locals; omega⟩)
    ⟨KSo.blind, fun U hU hWm => ⟨rfl, (by rw [hU]; exact hW), (by rw [hU]; exact KS.moved hWm hKS hS.2.1), (by rw [hU]; exact XO.moved hWm hO hS.2.1)⟩⟩ rfl (by simp) hl.1 (by subst hst; show List.map _ _ = _; rw [List.map_append, List.map_reverse]) (lv_room (by rw [cat_map]; exact hw8)) hd ⟨by show n - n0 + (n1 - n) ≤ rm.cells; omega, by show szs n - szs n0 + (szs n1 - szs n) ≤ rm.slots; omega⟩
  exact aw_fin (K0 := (p, l, e, s, m)) ok hW hS hl hn1 hn2 hr h
theorem aw_callXO {y : MethodName} {M' : MT} {idx : Nat} {av rest : List Value} {r : Option Value} {n1 : Nat} {R1 : Rg} {σ1 : Sg} (hd : decode M.2.1 pc = .ok (.invokevirtual idx, 3)) (hy : y.cls = "java/lang/String") (hl0 : (∀ w ∈ wsV M.1 idx y.cls y [Cond.code y M'.2.1 M'.2.2.1 M'.2.2.2.1], w ∈ wT) ∧ (y.cls ≠ "java/lang/invoke/MethodHandle" ∧ y.cls ≠ "java/lang/invoke/VarHandle" ∧ (parseMethodDescriptor y.desc).map (fun d => d.parameters.length) = some av.length)) (hO : KO K) (hm : AMo y M' (.retAddr 2 :: av) n R σ (r, n1, R1, σ1)) (hdep : M'.2.2.2.2 + 1 ≤ M.2.2.2.2) (hmx : M'.2.2.1 ≤ 60) (hn1 : n ≤ n1) (hn2 : n1 ≤ T.2.1) (hw8 : (rest.map fun v => v.category).sum ≤ 8) (hst : st = av.reverse ++ .retAddr 2 :: rest) (h : AW K M T (pc + 3) L (r.toList ++ rest) n1 R1 σ1) : AW K M T pc L st n R σ := by
  obtain ⟨⟨p, l, e, s, m⟩, ⟨args, below, meth, c0⟩, D, g, ext, base, n0, rm⟩ := K
  intro ok H locs ls hW hS hl
  obtain ⟨hx, hb, hre, hml, hown, hts, hKS, hlo, hbs, hn0, hnT, hF, hLo, hCe, hSl⟩ := id ok
  have q1 := szs_le hn0
  have q2 := szs_le hn1
  have q3 := szs_le hn2
  have hG : GoodIn wT (wsV M.1 idx y.cls y (Cond.code y M'.2.1 M'.2.2.1 M'.2.2.2.1 :: wT)) := gT fun w hw => by
    rcases List.mem_append.mp hw with h | h
    · exact hl0.1 w (List.mem_append_left _ h)
    · rcases List.mem_cons.mp h with h | h
      · exact hl0.1 w (List.mem_append_right _ (by rw [h]; exact List.mem_cons_self))
      · exact h
  have hrec : ∃ cell : Cell, H[ext 2]? = some cell ∧ cell.vm.isStatics = false ∧ s.vm.findClass y.cls = some cell.cls := by
    obtain ⟨cell, h1, h2, h3, -⟩ := hKS.2.2.2.2.2.2.1.kept hS.2.1
    exact ⟨cell, h1, h2, by rw [hy]; exact h3⟩
  have hr := va_runV (l := l) (e := e) (R := rm) (below := below) (meth := meth) (H := H) (locs := locs) (cells := n - n0) (slots := szs n - szs n0) (As := av.map (cv (base, ext))) (rest := rest.map (cv (base, ext))) (g := F0 m pc ls (st.map (cv (base, ext)))) ⟨hx, hb, hml, hown, hts⟩ (hm l D g ext base) (cwV av.length hts hG rfl rfl rfl ⟨rfl, hl0.2⟩ ⟨by show M'.2.2.2.2 + 1 ≤ rm.frames; omega, by show 8 + (M'.2.2.1 + 11) + 100 * M'.2.2.2.2 ≤ rm.locals; omega⟩)
    ⟨KSo.blind, hrec, fun U hU hWm => ⟨rfl, (by rw [hU]; exact hW), (by rw [hU]; exact KS.moved hWm hKS hS.2.1), (by rw [hU]; exact XO.moved hWm hO hS.2.1)⟩⟩ rfl (by simp) hl.1 (by subst hst; show List.map _ _ = _; rw [List.map_append, List.map_reverse]; rfl) (lv_room (by rw [cat_map]; exact hw8)) hd ⟨by show n - n0 + (n1 - n) ≤ rm.cells; omega, by show szs n - szs n0 + (szs n1 - szs n) ≤ rm.slots; omega⟩
  exact aw_fin (K0 := (p, l, e, s, m)) ok hW hS hl hn1 hn2 hr h
theorem aw_gsi {idx : Nat} (hO : KO K) (hd : decode M.2.1 pc = .ok (.getstatic idx, 3)) (hlk : Cond.fieldLink M.1 idx "jdk/internal/util/Preconditions" "SIOOBE_FORMATTER" "Ljava/util/function/BiFunction;" ∈ wT) (h : ∀ w : Value, w = .null ∨ w = .retAddr 4 → AW K M T (pc + 3) L (w :: st) n R σ) : AW K M T pc L st n R σ := by
  obtain ⟨⟨p, l, e, s, m⟩, ⟨args, below, meth, c0⟩, D, g, ext, base, n0, rm⟩ := K
  intro ok H locs ls hW hS hl
  obtain ⟨hx, hb, hre, hml, hown, hts, hKS, hlo, hbs, hn0, hnT, hF, hLo, hCe, hSl⟩ := id ok
  rcases hO.2 with z | z
  · exact va_gets hx hb z hS hown (hts _ hlk) (fun _ z => z) hd (h .null (Or.inl rfl) ok H locs ls hW hS hl)
  · exact va_gets hx hb z hS hown (hts _ hlk) (fun _ z => z) hd (h (.retAddr 4) (Or.inr rfl) ok H locs ls hW hS hl)
theorem aw_i2c {x v : Int32} (hv : (x.toUInt32 % 65536).toInt32 = v) (hd : decode M.2.1 pc = .ok (.i2c, 1)) (h : AW K M T (pc + 1) L (.int v :: st) n R σ) : AW K M T pc L (.int x :: st) n R σ := by
  obtain ⟨⟨p, l, e, s, m⟩, ⟨args, below, meth, c⟩, D, g, ext, base, n0, rm⟩ := K
  intro ok H locs ls hW hS hl
  exact lv_i2c ok.1 ok.2.1 hd hv (h ok H locs ls hW hS hl)
theorem aw_nret {x : Int32} {ty : FieldType} (hd : decode M.2.1 pc = .ok (.ireturn, 1)) (hr : M.2.2.2.1 = some ty) (hty : ty = .boolean ∨ ty = .byte ∨ ty = .char) (hnr : narrow ty (.int x) = .int x) (hT : T = (some (.int x), n, R, σ)) : AW K M T pc L [.int x] n R σ := by
  subst hT
  obtain ⟨⟨p, l, e, s, m⟩, ⟨args, below, meth, c0⟩, D, g, ext, base, n0, rm⟩ := K
  intro ok H locs ls hW hS hl
  obtain ⟨hx, hb, hre, hml, hown, hts, hKS, hlo, hbs, hn0, hnT, hF, hLo, hCe, hSl⟩ := id ok
  rcases hty with rfl | rfl | rfl <;> exact W.zret hx hb (by rw [hre, hr]) hnr (fun t ht _ => ⟨⟨rfl, by rw [ht]; exact hW⟩, hS.F ht⟩) hS.2.2 hd hlo
end CTORO
