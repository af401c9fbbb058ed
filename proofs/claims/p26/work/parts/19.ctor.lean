/-! constructors: cells are made, their reference slots set -/
section CTOR
variable {K : KT} {M : MT} {T : TT} {pc : Nat} {L : List (Option Value)} {st : List Value} {n : Nat} {R : Rg} {σ : Sg}
theorem WD.push {D : va_G} {g : CG} {base : Nat} {H H1 : Heap} (hW : WD D g base n R σ H) (z : H1.size = H.size + 1) (o : ∀ q : Nat, q < H.size → H1[q]? = H[q]?) (hc : va_at D cls (base + n, cE g base R σ n) H1) : WD D g base (n + 1) R σ H1 := by
  refine ⟨by rw [z, hW.1]; omega, fun a ha => ?_⟩
  by_cases e : a = n
  · subst e
    exact hc
  · exact (hW.2 a (by omega)).kept (o _ (by rw [hW.1]; show base + a < base + n; omega))
theorem va_S.push {A : Nat → Prop} {H0 H H1 : Heap} {locs : List Loc} (hS : va_S A H0 H locs) (z : H1.size = H.size + 1) (o : ∀ q : Nat, q < H.size → H1[q]? = H[q]?) : va_S A H0 H1 locs := ⟨Nat.le_trans hS.1 (by omega), fun x h1 h2 => (o x (Nat.lt_of_lt_of_le h1 hS.1)).trans (hS.2.1 x h1 h2), hS.2.2⟩
theorem aw_new {ci idx N : Nat} {C : String} {Tb : u_T} {ty : Nat → FieldType} (hd : decode M.2.1 pc = .ok (.new idx, 3)) (hf : CFact ci C Tb N ty) (hdef : ∀ k, k < N → isr ci k = true → defaultValue (ty k) = .null) (hcl : Cond.classLink M.1 idx C ∈ wT) (hin : Cond.instantiable C N ∈ wT) (hini : Cond.initialized C ∈ wT) (hs : sh n = (ci, 0)) (hz : ∀ k, σ n k = 0) (hr : ∀ k, R n k = none) (hn : n + 1 ≤ T.2.1) (h : AW K M T (pc + 3) L (.ref n :: st) (n + 1) R σ) : AW K M T pc L st n R σ := by
  obtain ⟨⟨p, l, e, s, m⟩, ⟨args, below, meth, c0⟩, D, g, ext, base, n0, rm⟩ := K
  intro ok H locs ls hW hS hl
  obtain ⟨f1, f2, f3, f4, f5, f6, f7, f8⟩ := hf
  obtain ⟨hx, hb, hre, hml, hown, hts, hKS, hlo, hbs, hn0, hnT, hF, hLo, hCe, hSl⟩ := id ok
  have hKn := hKS.1.1 ci _ f1
  have q1 := szs_le hn0
  have q2 := szs_le hn
  have e2 : csz n = N := by
    unfold csz
    rw [hs]
    simp [f2, f3]
  have e3 : szs (n + 1) = szs n + csz n := rfl
  refine W.newcK hx hb hown (hts _ hcl) (hts _ hin) (hts _ hini) rfl hd (by omega) (by omega) hKn.2.1 rfl fun H1 kC hkC e1 z1 o1 => ?_
  have c1 : n - n0 + 1 = n + 1 - n0 := by omega
  have c2 : szs n - szs n0 + N = szs (n + 1) - szs n0 := by omega
  have hH : H.size = base + n := hW.1
  rw [c1, c2, hH]
  rw [hH] at e1
  refine h ⟨hx, hb, hre, hml, hown, hts, hKS, hlo, hbs, by omega, hn, hF, hLo, hCe, hSl⟩ H1 locs ls (hW.push z1 o1 ?_) (hS.push z1 o1) hl
  rw [cE_obj (by rw [hs]) f2]
  refine ⟨_, f1, (u_born ty hts f4 hKn hkC e1 f5).to (fun j hj => ?_)⟩
  have hj' : j < nf ci := by omega
  unfold vp_V
  rw [List.getD_eq_getElem?_getD, List.getElem?_map, List.getElem?_range hj']
  show _ = fv base R σ n j
  unfold fv
  rw [hs]
  by_cases hi : isr ci j = true
  · rw [if_pos hi, hr]
    exact hdef j hj hi
  · rw [if_neg hi, hz, (f7 j hj (by simpa using hi)).1]
    rfl
theorem aw_newarr {len : Nat} {nn : Int32} (hd : decode M.2.1 pc = .ok (.newarray .int, 2)) (hac : Cond.arrayClass .int ∈ wT) (hs : sh n = (9, len)) (hz : ∀ k, σ n k = 0) (hn1 : ¬ nn < 0) (hn2 : nn.toNatClampNeg = len) (hb4 : len * 4 ≤ 536870912) (hn : n + 1 ≤ T.2.1) (h : AW K M T (pc + 2) L (.ref n :: st) (n + 1) R σ) : AW K M T pc L (.int nn :: st) n R σ := by
  obtain ⟨⟨p, l, e, s, m⟩, ⟨args, below, meth, c0⟩, D, g, ext, base, n0, rm⟩ := K
  intro ok H locs ls hW hS hl
  obtain ⟨hx, hb, hre, hml, hown, hts, hKS, hlo, hbs, hn0, hnT, hF, hLo, hCe, hSl⟩ := id ok
  have q1 := szs_le hn0
  have q2 := szs_le hn
  have e2 : csz n = len := by
    unfold csz
    rw [hs]
    rfl
  have e3 : szs (n + 1) = szs n + csz n := rfl
  have hce : n - n0 + 1 ≤ rm.cells := by omega
  have hse : szs n - szs n0 + len ≤ rm.slots := by omega
  refine va_newaK (atype := .int) (g := F0 m pc ls ((.int nn :: st).map (cv (base, ext)))) hx hb (hts _ hac) rfl hd rfl hn1 hn2 hb4 hce hse rfl fun H1 cA e1 z1 o1 hAr hNm => ?_
  have hcA : cA = g.1 := Option.some.inj (hNm.symm.trans (hKS.1.2 0 _ rfl).2)
  subst hcA
  have c1 : n - n0 + 1 = n + 1 - n0 := by omega
  have c2 : szs n - szs n0 + len = szs (n + 1) - szs n0 := by omega
  have hH : H.size = base + n := hW.1
  rw [c1, c2, hH]
  rw [hH] at e1
  refine h ⟨hx, hb, hre, hml, hown, hts, hKS, hlo, hbs, by omega, hn, hF, hLo, hCe, hSl⟩ H1 locs ls (hW.push z1 o1 ?_) (hS.push z1 o1) hl
  rw [cE_int hs]
  show H1[base + n]? = some (vp_cell _ _)
  rw [e1, vp_cell_i]
  congr 1
  exact arrV_ext (fun j _ => by rw [hz]; rfl)
theorem aw_newzarr {len : Nat} {nn : Int32} (hd : decode M.2.1 pc = .ok (.newarray .boolean, 2)) (hac : Cond.arrayClass .boolean ∈ wT) (hs : sh n = (10, len)) (hz : ∀ k, σ n k = 0) (hn1 : ¬ nn < 0) (hn2 : nn.toNatClampNeg = len) (hb4 : len * 1 ≤ 536870912) (hn : n + 1 ≤ T.2.1) (h : AW K M T (pc + 2) L (.ref n :: st) (n + 1) R σ) : AW K M T pc L (.int nn :: st) n R σ := by
  obtain ⟨⟨p, l, e, s, m⟩, ⟨args, below, meth, c0⟩, D, g, ext, base, n0, rm⟩ := K
  intro ok H locs ls hW hS hl
  obtain ⟨hx, hb, hre, hml, hown, hts, hKS, hlo, hbs, hn0, hnT, hF, hLo, hCe, hSl⟩ := id ok
  have q1 := szs_le hn0
  have q2 := szs_le hn
  have e2 : csz n = len := by
    unfold csz
    rw [hs]
    rfl
  have e3 : szs (n + 1) = szs n + csz n := rfl
  have hce : n - n0 + 1 ≤ rm.cells := by omega
  have hse : szs n - szs n0 + len ≤ rm.slots := by omega
  refine va_newaK (atype := .boolean) (g := F0 m pc ls ((.int nn :: st).map (cv (base, ext)))) hx hb (hts _ hac) rfl hd rfl hn1 hn2 hb4 hce hse rfl fun H1 cA e1 z1 o1 hAr hNm => ?_
  have hcA : cA = g.2.1 := Option.some.inj (hNm.symm.trans (hKS.1.2 1 _ rfl).2)
  subst hcA
  have c1 : n - n0 + 1 = n + 1 - n0 := by omega
  have c2 : szs n - szs n0 + len = szs (n + 1) - szs n0 := by omega
  have hH : H.size = base + n := hW.1
  rw [c1, c2, hH]
  rw [hH] at e1
  refine h ⟨hx, hb, hre, hml, hown, hts, hKS, hlo, hbs, by omega, hn, hF, hLo, hCe, hSl⟩ H1 locs ls (hW.push z1 o1 ?_) (hS.push z1 o1) hl
  rw [cE_bool hs]
  show H1[base + n]? = some (vp_cell _ _)
  rw [e1, vp_cell_i]
  congr 1
  exact arrV_ext (fun j _ => by rw [hz]; rfl)
theorem aw_anew {idx len : Nat} {nn : Int32} (hd : decode M.2.1 pc = .ok (.anewarray idx, 3)) (hcl : Cond.classLink M.1 idx RX2 ∈ wT) (hov : Cond.arrayOver (.object RX2) ∈ wT) (hs : sh n = (11, len)) (hr : ∀ k, R n k = none) (hn1 : ¬ nn < 0) (hn2 : nn.toNatClampNeg = len) (hb4 : len * 4 ≤ 536870912) (hn : n + 1 ≤ T.2.1) (h : AW K M T (pc + 3) L (.ref n :: st) (n + 1) R σ) : AW K M T pc L (.int nn :: st) n R σ := by
  subst hn2
  obtain ⟨⟨p, l, e, s, m⟩, ⟨args, below, meth, c0⟩, D, g, ext, base, n0, rm⟩ := K
  intro ok H locs ls hW hS hl
  obtain ⟨hx, hb, hre, hml, hown, hts, hKS, hlo, hbs, hn0, hnT, hF, hLo, hCe, hSl⟩ := id ok
  have q1 := szs_le hn0
  have q2 := szs_le hn
  have e2 : csz n = nn.toNatClampNeg := by
    unfold csz
    rw [hs]
    rfl
  have e3 : szs (n + 1) = szs n + csz n := rfl
  have hce : n - n0 + 1 ≤ rm.cells := by omega
  have hse : szs n - szs n0 + nn.toNatClampNeg ≤ rm.slots := by omega
  refine W.anew (g := F0 m pc ls ((.int nn :: st).map (cv (base, ext)))) hx hb hown (hts _ hcl) (hts _ hov) rfl hd rfl hn1 hb4 hce hse fun cA kA comp f1 f2 f3 f4 => ?_
  generalize hH1 : H.push ({ cls := cA, slots := Array.replicate nn.toNatClampNeg .null, vm := .none } : Cell) = H1
  have z1 : H1.size = H.size + 1 := by rw [← hH1, Array.size_push]
  have e1 : H1[H.size]? = some (arrV cA nn.toNatClampNeg (fun _ => .null)) := by rw [← hH1, Array.getElem?_push_size, ← arrV_new]
  have o1 : ∀ q : Nat, q < H.size → H1[q]? = H[q]? := fun q hq => by rw [← hH1, Array.getElem?_push, if_neg (Nat.ne_of_lt hq)]
  obtain ⟨_, _, _, _, _, g4⟩ := (hKS.1.2 2 _ rfl).2
  have hcA : cA = g.2.2 := Option.some.inj (f1.symm.trans g4)
  subst hcA
  have c1 : n - n0 + 1 = n + 1 - n0 := by omega
  have c2 : szs n - szs n0 + nn.toNatClampNeg = szs (n + 1) - szs n0 := by omega
  have hH : H.size = base + n := hW.1
  rw [c1, c2, hH]
  rw [hH] at e1
  refine h ⟨hx, hb, hre, hml, hown, hts, hKS, hlo, hbs, by omega, hn, hF, hLo, hCe, hSl⟩ H1 locs ls (hW.push z1 o1 ?_) (hS.push z1 o1) hl
  rw [cE_mdw hs]
  show H1[base + n]? = some (vp_cell _ _)
  rw [e1, vp_cell_q]
  congr 1
  exact arrV_ext (fun j _ => by rw [hr]; rfl)
/-- a constructor's frame -/
def KI (K : KT) : Prop := match K with
  | (_, (_, _, meth, _), _) => meth.name = "<init>"
theorem aw_putRF {c ci k idx d N : Nat} {C : String} {Tb : u_T} {ty : Nat → FieldType} (hd : decode M.2.1 pc = .ok (.putfield idx, 3)) (hI : KI K) (hf : CFact ci C Tb N ty) (hk : k < N) (hlk : Cond.fieldLink M.1 idx (Tb k).1 (Tb k).2.1 (Tb k).2.2.1 ∈ wT) (hfin : (Tb k).2.2.2 = true) (hdecl : (Tb k).1 = M.1) (hty : ∀ x : Nat, narrow (ty k) (.ref x) = .ref x ∧ fits (ty k) (.ref x) = true) (hc : c < n) (hs : (sh c).1 = ci) (hi : isr ci k = true) (h : AW K M T (pc + 3) L st n (upr R c k (some d)) σ) : AW K M T pc L (.ref d :: .ref c :: st) n R σ := by
  obtain ⟨⟨p, l, e, s, m⟩, ⟨args, below, meth, c0⟩, D, g, ext, base, n0, rm⟩ := K
  intro ok H locs ls hW hS hl
  obtain ⟨f1, f2, f3, f4, f5, f6, f7, f8⟩ := hf
  have hin2 : meth.name = "<init>" := hI
  have hat := hW.2 c hc
  rw [cE_obj hs f2] at hat
  obtain ⟨hx, hb, hre, hml, hown, hts, hKS, hlo, hbs, hn0, hnT, hF, hLo, hCe, hSl⟩ := id ok
  have hap := va_apart (own := M.1) hts f4 ty f5 f6 hKS.1 f1
  obtain ⟨r, h1, cell, q1, q2, q3, q4⟩ := hat
  have hr : r = (C, Tb, N) := Option.some.inj (h1.symm.trans f1)
  subst hr
  obtain ⟨hSl', hfc, kC, hkC, hkind⟩ := hKS.1.1 ci _ f1
  obtain ⟨cf, kf, fi, f, hfi, hsl⟩ := hSl' k hk
  have hlay := hts _ (f4 _ (u_in_lay hk))
  unfold u_lay at hlay
  rw [if_pos hfin] at hlay
  have hst := (u_facts hfc hkC (u_lays hts f4 hk) hfi).1
  have hcf : m.cls = cf := by
    obtain ⟨_, _, c', _, _, _, -, -, hf', -, -, -, hown2, -⟩ := Cond.laysFinal_spec hlay
    have e1 : c' = cf := by have := hfi.symm.trans hf'; simp at this; exact this.1.symm
    rw [hdecl] at hown2
    rw [← e1]; exact Option.some.inj (hown.symm.trans hown2)
  have h6 := u_fits (v := .ref (base + d)) hfc hkC hkind (Or.inr hlay) hfi (f5 k hk) (hty _).1 (hty _).2
  refine W.putFinK hx hb hown (hts _ hlk) hfi hst hcf hin2 (by rw [q2]; exact h6) q1 q3 (by rw [hsl]; exact k2_hasslot (q4 k hk)) rfl rfl hd fun H1 e1 e2 e3 => ?_
  rw [hsl] at e1 ⊢
  refine h ok H1 _ ls (hW.put e2 e3 (fun _ _ => rfl) (fun a ha => (upr_ne ha).symm) ?_) (hS.put e2 e3 (Nat.le_add_right _ _)) hl
  rw [cE_obj hs f2]
  refine ⟨_, f1, t_OB.to (V := updV (vp_V ((List.range (nf ci)).map (fv base R σ c))) k (.ref (base + d))) ⟨_, e1, q2, q3, t_set q4 hap hk (.ref (base + d))⟩ (fun j _ => ?_)⟩
  rw [vp_updV_set (by simpa using (by omega : k < nf ci)), fs_setR (by rw [hs]; exact hi) (by omega)]
theorem aw_aast {c d len : Nat} {i : Int32} (hd : decode M.2.1 pc = .ok (.aastore, 1)) (hc : c < n) (hs : sh c = (11, len)) (hdn : d < n) (hsd : (sh d).1 = 2) (hi : inb i len = true) (h : AW K M T (pc + 1) L st n (upr R c i.toNatClampNeg (some d)) σ) : AW K M T pc L (.ref d :: .int i :: .ref c :: st) n R σ := by
  obtain ⟨⟨p, l, e, s, m⟩, ⟨args, below, meth, c0⟩, D, g, ext, base, n0, rm⟩ := K
  intro ok H locs ls hW hS hl
  have hat := hW.2 c hc
  rw [cE_mdw hs] at hat
  have hat2 := hW.2 d hdn
  rw [cE_obj hsd (by decide)] at hat2
  obtain ⟨hx, hb, hre, hml, hown, hts, hKS, hlo, hbs, hn0, hnT, hF, hLo, hCe, hSl⟩ := id ok
  have hin := inb_vp hi
  have hlt : i.toNatClampNeg < len := Nat.not_le.mp fun q => hin (Or.inr q)
  have h0 : ¬ i < 0 := fun q => hin (Or.inl q)
  obtain ⟨r', hr', cellV, g1, g2, g3, -⟩ := hat2
  have hcls := (hKS.1.1 2 _ rfl).2
  obtain ⟨kA, comp, k1, k2, k3, -⟩ := (hKS.1.2 2 _ rfl).2
  have hcomp : comp = D.1 2 := Option.some.inj (k3.symm.trans hcls.1)
  subst hcomp
  obtain ⟨kC, hkC, -⟩ := hcls.2
  refine W.aast hx hb hat (fun q h => by cases h) (fun h => by cases h) k1 k2 rfl hkC ⟨h0, by show _ < (arrV _ _ _).slots.size; rw [arrV_size]; exact hlt⟩ g1 (fun q h => by rw [g3] at h; cases h) (by rw [g2]; exact hkC) (by rw [g2]; exact va_assign hcls) rfl rfl hd fun H1 e1 z oq => ?_
  refine h ok H1 _ ls (hW.put z oq (fun _ _ => rfl) (fun a ha => (upr_ne ha).symm) ?_) (hS.put z oq (Nat.le_add_right _ _)) hl
  rw [cE_mdw hs]
  show H1[base + c]? = some (vp_cell _ _)
  rw [e1, vp_cell_q, vp_cell_q, arrV_store]
  congr 2
  funext q
  by_cases hq : q = i.toNatClampNeg
  · subst hq
    simp [updV, upr, va_rf]
  · simp [updV, upr, hq]
theorem AMc.ofI {y : MethodName} {av : List Value} (hy : plainName y.cls = true) (hM : y.cls = M.1) (hyn : y.name = "<init>") (hlv : ∀ bt, lvA bt 0 L = lv_args 0 (av.map (cv bt))) (hle : ∀ bt, (lg_sl (av.map (cv bt))).length ≤ M.2.2.1) (hn : n ≤ T.2.1) (h : ∀ K, KI K → AW K M T 0 L [] n R σ) : AMc y M av n R σ T := by
  intro l D g ext base
  refine Met.ofW (cc := M.2.1) (maxL := M.2.2.1) (ret := M.2.2.2.1) hy rfl ?_
  intro p e s m args below meth c s₁ B hml hv
  obtain ⟨rfl, hWD, hKS⟩ := hv
  have hts0 := atoms_spec (ws := Cond.code y M.2.1 M.2.2.1 M.2.2.2.1 :: wT) B.pre
  have hl := lv_entry (av.map (cv (base, ext))) (n := M.2.2.1) (hle (base, ext))
  rw [← hlv] at hl
  rw [lg_entry_eq]
  have hb : base ≤ s.heap.size := by rw [hWD.1]; omega
  have hown : s.vm.findClass M.1 = some m.cls := by rw [← hM]; exact findClass_of_methodNamed B.named
  have z := h ((p, l, e, s, m), ((av.map (cv (base, ext))).toArray, below, meth, c), D, g, ext, base, n, roomOf M.2.2.2.2 n T.2.1) ((name_of_methodNamed B.named B.method).1.trans hyn) ⟨B.exec, B.bytes, B.returns, hml, hown, fun w hw => hts0 w (List.mem_cons_of_mem _ hw), hKS, B.notSynchronized, hb, Nat.le_refl _, hn, Nat.le_refl _, Nat.le_refl _, Nat.le_refl _, Nat.le_refl _⟩ s.heap [] _ hWD va_S.rf hl
  rw [Nat.sub_self, Nat.sub_self] at z
  exact z
theorem aw_objInit {idx c : Nat} (hd : decode M.2.1 pc = .ok (.invokespecial idx, 3)) (h1 : Cond.methodLink M.1 idx objectInit ∈ wT) (h2 : Cond.instanceMethod objectInit ∈ wT) (h3 : Cond.code objectInit ⟨#[0xb1]⟩ 1 none ∈ wT) (hst : st = []) (hdep : 1 ≤ M.2.2.2.2) (h : AW K M T (pc + 3) L st n R σ) : AW K M T pc L (.ref c :: st) n R σ := by
  subst hst
  obtain ⟨⟨p, l, e, s, m⟩, ⟨args, below, meth, c0⟩, D, g, ext, base, n0, rm⟩ := K
  intro ok H locs ls hW hS hl
  obtain ⟨hx, hb, hre, hml, hown, hts, hKS, hlo, hbs, hn0, hnT, hF, hLo, hCe, hSl⟩ := id ok
  refine W.objInit hx hb hown (hts _ h1) (hts _ h2) (hts _ h3) rfl (by rw [hml]; exact hl.1) rfl hd (by show 1 ≤ rm.frames; omega) (by show 2 * 0 + 0 + 12 ≤ rm.locals; omega) ?_
  exact h ok H locs ls hW hS hl
def LI (own : String) (idx : Nat) (y : MethodName) (M' : MT) (na : Nat) : Prop := (∀ w ∈ ([.methodLink own idx y, .instanceMethod y, .initialized y.cls, Cond.code y M'.2.1 M'.2.2.1 M'.2.2.2.1] : List Cond), w ∈ wT) ∧ y.name = "<init>" ∧ M'.2.2.2.1 = none ∧ (y.cls ≠ "java/lang/invoke/MethodHandle" ∧ y.cls ≠ "java/lang/invoke/VarHandle" ∧ (parseMethodDescriptor y.desc).map (fun d => d.parameters.length) = some na)
theorem aw_callI {y : MethodName} {M' : MT} {c idx : Nat} {av rest : List Value} {n1 : Nat} {R1 : Rg} {σ1 : Sg} (hd : decode M.2.1 pc = .ok (.invokespecial idx, 3)) (hl0 : LI M.1 idx y M' av.length) (hm : AMc y M' (.ref c :: av) n R σ (none, n1, R1, σ1)) (hdep : M'.2.2.2.2 + 1 ≤ M.2.2.2.2) (hmx : M'.2.2.1 ≤ 60) (hn1 : n ≤ n1) (hn2 : n1 ≤ T.2.1) (hw8 : (rest.map fun v => v.category).sum ≤ 8) (hst : st = av.reverse ++ .ref c :: rest) (h : AW K M T (pc + 3) L rest n1 R1 σ1) : AW K M T pc L st n R σ := by
  obtain ⟨⟨p, l, e, s, m⟩, ⟨args, below, meth, c0⟩, D, g, ext, base, n0, rm⟩ := K
  intro ok H locs ls hW hS hl
  obtain ⟨hx, hb, hre, hml, hown, hts, hKS, hlo, hbs, hn0, hnT, hF, hLo, hCe, hSl⟩ := id ok
  have q1 := szs_le hn0
  have q2 := szs_le hn1
  have q3 := szs_le hn2
  obtain ⟨hw0, hyn, hrn, hpd⟩ := hl0
  have hm2 := hm l D g ext base
  rw [hrn] at hm2 hw0
  have hG : GoodIn wT (Cond.code y M'.2.1 M'.2.2.1 none :: wT) := gT fun w hw => by
    rcases List.mem_cons.mp hw with h | h
    · exact hw0 w (by rw [h]; simp)
    · exact h
  have hr := va_runI (l := l) (e := e) (R := rm) (below := below) (meth := meth) (H := H) (locs := locs) (cells := n - n0) (slots := szs n - szs n0) (As := av.map (cv (base, ext))) (rest := rest.map (cv (base, ext))) (g := F0 m pc ls (st.map (cv (base, ext)))) ⟨hx, hb, hml, hown, hts⟩ hm2 (cwI av.length hts hG rfl rfl rfl (hts _ (hw0 _ (by simp))) (hts _ (hw0 _ (by simp))) (hts _ (hw0 _ (by simp))) hyn hpd ⟨by show M'.2.2.2.2 + 1 ≤ rm.frames; omega, by show 8 + (M'.2.2.1 + 11) + 100 * M'.2.2.2.2 ≤ rm.locals; omega⟩)
    ⟨KS.blind, fun U hU hWm => ⟨rfl, by rw [hU]; exact hW, by rw [hU]; exact KS.moved hWm hKS hS.2.1⟩⟩ rfl (by simp) hl.1 (by subst hst; show List.map _ _ = _; rw [List.map_append, List.map_reverse]; rfl) (lv_room (by rw [cat_map]; exact hw8)) hd ⟨by show n - n0 + (n1 - n) ≤ rm.cells; omega, by show szs n - szs n0 + (szs n1 - szs n) ≤ rm.slots; omega⟩
  exact aw_fin (K0 := (p, l, e, s, m)) (r := none) ok hW hS hl hn1 hn2 hr h
def LIN (own : String) (idx : Nat) (y : MethodName) (M' : MT) (na : Nat) : Prop := (∀ w ∈ ([.instanceMethod y, .initialized y.cls, Cond.code y M'.2.1 M'.2.2.1 M'.2.2.2.1] : List Cond), w ∈ wT) ∧ y.name = "<init>" ∧ M'.2.2.2.1 = none ∧ (y.cls ≠ "java/lang/invoke/MethodHandle" ∧ y.cls ≠ "java/lang/invoke/VarHandle" ∧ (parseMethodDescriptor y.desc).map (fun d => d.parameters.length) = some na) ∧ ∃ host, Cond.methodLinkNest own idx y host ∈ nestW
theorem aw_callIN {y : MethodName} {M' : MT} {c idx : Nat} {av rest : List Value} {n1 : Nat} {R1 : Rg} {σ1 : Sg} (hd : decode M.2.1 pc = .ok (.invokespecial idx, 3)) (hl0 : LIN M.1 idx y M' av.length) (hm : AMc y M' (.ref c :: av) n R σ (none, n1, R1, σ1)) (hdep : M'.2.2.2.2 + 1 ≤ M.2.2.2.2) (hmx : M'.2.2.1 ≤ 60) (hn1 : n ≤ n1) (hn2 : n1 ≤ T.2.1) (hw8 : (rest.map fun v => v.category).sum ≤ 8) (hst : st = av.reverse ++ .ref c :: rest) (h : AW K M T (pc + 3) L rest n1 R1 σ1) : AW K M T pc L st n R σ := by
  obtain ⟨⟨p, l, e, s, m⟩, ⟨args, below, meth, c0⟩, D, g, ext, base, n0, rm⟩ := K
  intro ok H locs ls hW hS hl
  obtain ⟨hx, hb, hre, hml, hown, hts, hKS, hlo, hbs, hn0, hnT, hF, hLo, hCe, hSl⟩ := id ok
  have q1 := szs_le hn0
  have q2 := szs_le hn1
  have q3 := szs_le hn2
  obtain ⟨hw0, hyn, hrn, hpd, host, hnest⟩ := hl0
  have hm2 := hm l D g ext base
  rw [hrn] at hm2 hw0
  have hG : GoodIn wT (Cond.code y M'.2.1 M'.2.2.1 none :: wT) := gT fun w hw => by
    rcases List.mem_cons.mp hw with h | h
    · exact hw0 w (by rw [h]; simp)
    · exact h
  have hr := va_runIN (l := l) (e := e) (R := rm) (below := below) (meth := meth) (H := H) (locs := locs) (cells := n - n0) (slots := szs n - szs n0) (As := av.map (cv (base, ext))) (rest := rest.map (cv (base, ext))) (g := F0 m pc ls (st.map (cv (base, ext)))) (Ts := wT) ⟨hx, hb, hml, hown, hts⟩ hm2 ⟨va_cnB av.length hts hG rfl rfl rfl (hKS.2.2.2.1 _ hnest) (hts _ (hw0 _ (by simp))) hpd ⟨by show M'.2.2.2.2 + 1 ≤ rm.frames; omega, by show 8 + (M'.2.2.1 + 11) + 100 * M'.2.2.2.2 ≤ rm.locals; omega⟩, hyn, hts _ (hw0 _ (by simp))⟩
    ⟨KS.blind, fun U hU hWm => ⟨rfl, by rw [hU]; exact hW, by rw [hU]; exact KS.moved hWm hKS hS.2.1⟩⟩ rfl (by simp) hl.1 (by subst hst; show List.map _ _ = _; rw [List.map_append, List.map_reverse]; rfl) (lv_room (by rw [cat_map]; exact hw8)) hd ⟨by show n - n0 + (n1 - n) ≤ rm.cells; omega, by show szs n - szs n0 + (szs n1 - szs n) ≤ rm.slots; omega⟩
  exact aw_fin (K0 := (p, l, e, s, m)) (r := none) ok hW hS hl hn1 hn2 hr h
/-! the text at first: a String constant and its bytes -/
theorem aw_ldcS (hd : decode M.2.1 pc = .ok (.ldc 69, 2)) (hM : M.1 = "SheepChess") (h : AW K M T (pc + 2) L (.retAddr 2 :: st) n R σ) : AW K M T pc L st n R σ := by
  obtain ⟨⟨p, l, e, s, m⟩, ⟨args, below, meth, c0⟩, D, g, ext, base, n0, rm⟩ := K
  intro ok H locs ls hW hS hl
  obtain ⟨hx, hb, hre, hml, hown, hts, hKS, hlo, hbs, hn0, hnT, hF, hLo, hCe, hSl⟩ := id ok
  exact va_ldcS hx hb (by rw [← hM]; exact hown) hKS.2.2.2.2.2.1 hd (h ok H locs ls hW hS hl)
theorem aw_gcs {idx : Nat} (hd : decode M.2.1 pc = .ok (.getstatic idx, 3)) (hlk : Cond.fieldLink M.1 idx "java/lang/String" "COMPACT_STRINGS" "Z" ∈ wT) (h : AW K M T (pc + 3) L (.int 1 :: st) n R σ) : AW K M T pc L st n R σ := by
  obtain ⟨⟨p, l, e, s, m⟩, ⟨args, below, meth, c0⟩, D, g, ext, base, n0, rm⟩ := K
  intro ok H locs ls hW hS hl
  obtain ⟨hx, hb, hre, hml, hown, hts, hKS, hlo, hbs, hn0, hnT, hF, hLo, hCe, hSl⟩ := id ok
  exact va_gets hx hb hKS.2.2.2.2.1 hS hown (hts _ hlk) (fun _ z => z) hd (h ok H locs ls hW hS hl)
theorem aw_gval {idx : Nat} (hd : decode M.2.1 pc = .ok (.getfield idx, 3)) (hlk : Cond.fieldLink M.1 idx "java/lang/String" "value" "[B" ∈ wT) (h : AW K M T (pc + 3) L (.retAddr 3 :: st) n R σ) : AW K M T pc L (.retAddr 2 :: st) n R σ := by
  obtain ⟨⟨p, l, e, s, m⟩, ⟨args, below, meth, c0⟩, D, g, ext, base, n0, rm⟩ := K
  intro ok H locs ls hW hS hl
  obtain ⟨hx, hb, hre, hml, hown, hts, hKS, hlo, hbs, hn0, hnT, hF, hLo, hCe, hSl⟩ := id ok
  exact vk_getf hx hb hKS.2.2.2.2.2.2.2.2.1 hS hown (hts _ hlk) (fun _ z => z) hd (h ok H locs ls hW hS hl)
theorem aw_gcod {idx : Nat} (hd : decode M.2.1 pc = .ok (.getfield idx, 3)) (hlk : Cond.fieldLink M.1 idx "java/lang/String" "coder" "B" ∈ wT) (h : AW K M T (pc + 3) L (.int 0 :: st) n R σ) : AW K M T pc L (.retAddr 2 :: st) n R σ := by
  obtain ⟨⟨p, l, e, s, m⟩, ⟨args, below, meth, c0⟩, D, g, ext, base, n0, rm⟩ := K
  intro ok H locs ls hW hS hl
  obtain ⟨hx, hb, hre, hml, hown, hts, hKS, hlo, hbs, hn0, hnT, hF, hLo, hCe, hSl⟩ := id ok
  exact vk_getf hx hb hKS.2.2.2.2.2.2.2.1 hS hown (hts _ hlk) (fun _ z => z) hd (h ok H locs ls hW hS hl)
theorem aw_blen (hd : decode M.2.1 pc = .ok (.arraylength, 1)) (h : AW K M T (pc + 1) L (.int 113 :: st) n R σ) : AW K M T pc L (.retAddr 3 :: st) n R σ := by
  obtain ⟨⟨p, l, e, s, m⟩, ⟨args, below, meth, c0⟩, D, g, ext, base, n0, rm⟩ := K
  intro ok H locs ls hW hS hl
  obtain ⟨hx, hb, hre, hml, hown, hts, hKS, hlo, hbs, hn0, hnT, hF, hLo, hCe, hSl⟩ := id ok
  exact va_tlen hx hb hKS.2.2.2.2.2.2.2.2.2 hS (v := 113) rfl hd (h ok H locs ls hW hS hl)
theorem aw_bld {i : Int32} (hd : decode M.2.1 pc = .ok (.baload, 1)) (hi : inb i 113 = true) (h : AW K M T (pc + 1) L (.int (firstB.getD i.toNatClampNeg 0) :: st) n R σ) : AW K M T pc L (.int i :: .retAddr 3 :: st) n R σ := by
  obtain ⟨⟨p, l, e, s, m⟩, ⟨args, below, meth, c0⟩, D, g, ext, base, n0, rm⟩ := K
  intro ok H locs ls hW hS hl
  obtain ⟨hx, hb, hre, hml, hown, hts, hKS, hlo, hbs, hn0, hnT, hF, hLo, hCe, hSl⟩ := id ok
  exact va_tb hx hb hKS.2.2.2.2.2.2.2.2.2 hS (inb_vp hi) rfl hd (h ok H locs ls hW hS hl)
theorem aw_callX {y : MethodName} {M' : MT} {idx : Nat} {av rest : List Value} {r : Option Value} {n1 : Nat} {R1 : Rg} {σ1 : Sg} (hd : decode M.2.1 pc = .ok (.invokevirtual idx, 3)) (hy : y.cls = "java/lang/String") (hl0 : (∀ w ∈ wsV M.1 idx y.cls y [Cond.code y M'.2.1 M'.2.2.1 M'.2.2.2.1], w ∈ wT) ∧ (y.cls ≠ "java/lang/invoke/MethodHandle" ∧ y.cls ≠ "java/lang/invoke/VarHandle" ∧ (parseMethodDescriptor y.desc).map (fun d => d.parameters.length) = some av.length)) (hm : AMc y M' (.retAddr 2 :: av) n R σ (r, n1, R1, σ1)) (hdep : M'.2.2.2.2 + 1 ≤ M.2.2.2.2) (hmx : M'.2.2.1 ≤ 60) (hn1 : n ≤ n1) (hn2 : n1 ≤ T.2.1) (hw8 : (rest.map fun v => v.category).sum ≤ 8) (hst : st = av.reverse ++ .retAddr 2 :: rest) (h : AW K M T (pc + 3) L (r.toList ++ rest) n1 R1 σ1) : AW K M T pc L st n R σ := by
  obtain ⟨⟨p, l, e, s, m⟩, ⟨args, below, meth, c0⟩, D, g, ext, base, n0, rm⟩ := K
  intro ok H locs ls hW hS hl
  obtain ⟨hx, hb, hre, hml, hown, hts, hKS, hlo, hbs, hn0, hnT, hF, hLo, hCe, hSl⟩ := id ok
  have q1 := szs_le hn0
  have q2 := szs_le hn1
  have q3 := szs_le hn2
  have hG : GoodIn wT (wsV M.1 idx y.cls y (Cond.code y M'.2.1 M'.2.2.1 M'.2.2.2.1 :: wT)) := gT fun w hw => by
    rcases List.mem_append.mp hw with h | h
    · exact hl0.1 w (List.mem_append_left _ h)
    · rcases List.mem_cons.mp h with h | h
      · exact hl0.1 w (List.mem_append_right _ (by rw [h]; exact List.mem_cons_self))
      · exact h
  have hrec : ∃ cell : Cell, H[ext 2]? = some cell ∧ cell.vm.isStatics = false ∧ s.vm.findClass y.cls = some cell.cls := by
    obtain ⟨cell, h1, h2, h3, -⟩ := hKS.2.2.2.2.2.2.1.kept hS.2.1
    exact ⟨cell, h1, h2, by rw [hy]; exact h3⟩
  have hr := va_runV (l := l) (e := e) (R := rm) (below := below) (meth := meth) (H := H) (locs := locs) (cells := n - n0) (slots := szs n - szs n0) (As := av.map (cv (base, ext))) (rest := rest.map (cv (base, ext))) (g := F0 m pc ls (st.map (cv (base, ext)))) ⟨hx, hb, hml, hown, hts⟩ (hm l D g ext base) (cwV av.length hts hG rfl rfl rfl ⟨rfl, hl0.2⟩ ⟨by show M'.2.2.2.2 + 1 ≤ rm.frames; omega, by show 8 + (M'.2.2.1 + 11) + 100 * M'.2.2.2.2 ≤ rm.locals; omega⟩)
    ⟨KS.blind, hrec, fun U hU hWm => ⟨rfl, by rw [hU]; exact hW, by rw [hU]; exact KS.moved hWm hKS hS.2.1⟩⟩ rfl (by simp) hl.1 (by subst hst; show List.map _ _ = _; rw [List.map_append, List.map_reverse]; rfl) (lv_room (by rw [cat_map]; exact hw8)) hd ⟨by show n - n0 + (n1 - n) ≤ rm.cells; omega, by show szs n - szs n0 + (szs n1 - szs n) ≤ rm.slots; omega⟩
  exact aw_fin (K0 := (p, l, e, s, m)) ok hW hS hl hn1 hn2 hr h
/-! the script (ext 1) -/
def KX (K : KT) (Ln : Nat) (xs : Nat → Int32) : Prop := match K with
  | ((_, _, _, s, _), _, _, _, ext, base, _, _) => va_X (ext 1) Ln xs s s.heap ∧ ext 1 < base
theorem aw_slen {Ln : Nat} {xs : Nat → Int32} {v : Int32} (hX : KX K Ln xs) (hd : decode M.2.1 pc = .ok (.arraylength, 1)) (hv : Int32.ofNat Ln = v) (h : AW K M T (pc + 1) L (.int v :: st) n R σ) : AW K M T pc L (.retAddr 1 :: st) n R σ := by
  subst hv
  obtain ⟨⟨p, l, e, s, m⟩, ⟨args, below, meth, c0⟩, D, g, ext, base, n0, rm⟩ := K
  intro ok H locs ls hW hS hl
  obtain ⟨hx, hb, hre, hml, hown, hts, hKS, hlo, hbs, hn0, hnT, hF, hLo, hCe, hSl⟩ := id ok
  exact va_slen hx hb hX.1 (Nat.lt_of_lt_of_le hX.2 hbs) (Nat.not_le.mpr hX.2) hS hd (h ok H locs ls hW hS hl)
theorem aw_sld {Ln : Nat} {xs : Nat → Int32} {i : Int32} (hX : KX K Ln xs) (hd : decode M.2.1 pc = .ok (.iaload, 1)) (hi : inb i Ln = true) (h : AW K M T (pc + 1) L (.int (xs i.toNatClampNeg) :: st) n R σ) : AW K M T pc L (.int i :: .retAddr 1 :: st) n R σ := by
  obtain ⟨⟨p, l, e, s, m⟩, ⟨args, below, meth, c0⟩, D, g, ext, base, n0, rm⟩ := K
  intro ok H locs ls hW hS hl
  obtain ⟨hx, hb, hre, hml, hown, hts, hKS, hlo, hbs, hn0, hnT, hF, hLo, hCe, hSl⟩ := id ok
  exact va_sld hx hb hX.1 (Nat.lt_of_lt_of_le hX.2 hbs) (Nat.not_le.mpr hX.2) hS (inb_vp hi) hd (h ok H locs ls hW hS hl)
end CTOR
theorem aw_xload_0 {K : KT} {M : MT} {T : TT} {pc : Nat} {st : List Value} {n : Nat} {R : Rg} {σ : Sg} {r : List (Option Value)} {x : Nat} (hd : decode M.2.1 pc = .ok (.aload_n 0, 1)) (h : AW K M T (pc + 1) (some (.retAddr x) :: r) (.retAddr x :: st) n R σ) : AW K M T pc (some (.retAddr x) :: r) st n R σ := by
  obtain ⟨⟨p, l, e, s, m⟩, ⟨args, below, meth, c⟩, D, g, ext, base, n0, rm⟩ := K
  intro ok H locs ls hW hS hl
  exact lv_aload_n ok.1 ok.2.1 hd rfl (lvA_get (i := 0) (v := .retAddr x) hl rfl) (h ok H locs ls hW hS hl)
theorem ag_xload_0 {α : Type} {K : KT} {M : MT} {N : Nat} {t : α → TT} {j : Option α} {pc q : Nat} {st : List Value} {σ : Sg} {r : List (Option Value)} {x : Nat} (hd : decode M.2.1 pc = .ok (.aload_n 0, 1)) (hq : pc + 1 = q) (h : AG K M N t j q (some (.retAddr x) :: r) (.retAddr x :: st) σ) : AG K M N t j pc (some (.retAddr x) :: r) st σ := by
  subst hq; exact fun a e nN => aw_xload_0 hd (h a e nN)
theorem aw_xload_1 {K : KT} {M : MT} {T : TT} {pc : Nat} {st : List Value} {n : Nat} {R : Rg} {σ : Sg} {a0 : Option Value} {r : List (Option Value)} {x : Nat} (hd : decode M.2.1 pc = .ok (.aload_n 1, 1)) (h : AW K M T (pc + 1) (a0 :: some (.retAddr x) :: r) (.retAddr x :: st) n R σ) : AW K M T pc (a0 :: some (.retAddr x) :: r) st n R σ := by
  obtain ⟨⟨p, l, e, s, m⟩, ⟨args, below, meth, c⟩, D, g, ext, base, n0, rm⟩ := K
  intro ok H locs ls hW hS hl
  exact lv_aload_n ok.1 ok.2.1 hd rfl (lvA_get (i := 1) (v := .retAddr x) hl rfl) (h ok H locs ls hW hS hl)
theorem ag_xload_1 {α : Type} {K : KT} {M : MT} {N : Nat} {t : α → TT} {j : Option α} {pc q : Nat} {st : List Value} {σ : Sg} {a0 : Option Value} {r : List (Option Value)} {x : Nat} (hd : decode M.2.1 pc = .ok (.aload_n 1, 1)) (hq : pc + 1 = q) (h : AG K M N t j q (a0 :: some (.retAddr x) :: r) (.retAddr x :: st) σ) : AG K M N t j pc (a0 :: some (.retAddr x) :: r) st σ := by
  subst hq; exact fun a e nN => aw_xload_1 hd (h a e nN)
theorem aw_xload_2 {K : KT} {M : MT} {T : TT} {pc : Nat} {st : List Value} {n : Nat} {R : Rg} {σ : Sg} {a0 a1 : Option Value} {r : List (Option Value)} {x : Nat} (hd : decode M.2.1 pc = .ok (.aload_n 2, 1)) (h : AW K M T (pc + 1) (a0 :: a1 :: some (.retAddr x) :: r) (.retAddr x :: st) n R σ) : AW K M T pc (a0 :: a1 :: some (.retAddr x) :: r) st n R σ := by
  obtain ⟨⟨p, l, e, s, m⟩, ⟨args, below, meth, c⟩, D, g, ext, base, n0, rm⟩ := K
  intro ok H locs ls hW hS hl
  exact lv_aload_n ok.1 ok.2.1 hd rfl (lvA_get (i := 2) (v := .retAddr x) hl rfl) (h ok H locs ls hW hS hl)
theorem ag_xload_2 {α : Type} {K : KT} {M : MT} {N : Nat} {t : α → TT} {j : Option α} {pc q : Nat} {st : List Value} {σ : Sg} {a0 a1 : Option Value} {r : List (Option Value)} {x : Nat} (hd : decode M.2.1 pc = .ok (.aload_n 2, 1)) (hq : pc + 1 = q) (h : AG K M N t j q (a0 :: a1 :: some (.retAddr x) :: r) (.retAddr x :: st) σ) : AG K M N t j pc (a0 :: a1 :: some (.retAddr x) :: r) st σ := by
  subst hq; exact fun a e nN => aw_xload_2 hd (h a e nN)
theorem aw_xload_3 {K : KT} {M : MT} {T : TT} {pc : Nat} {st : List Value} {n : Nat} {R : Rg} {σ : Sg} {a0 a1 a2 : Option Value} {r : List (Option Value)} {x : Nat} (hd : decode M.2.1 pc = .ok (.aload_n 3, 1)) (h : AW K M T (pc + 1) (a0 :: a1 :: a2 :: some (.retAddr x) :: r) (.retAddr x :: st) n R σ) : AW K M T pc (a0 :: a1 :: a2 :: some (.retAddr x) :: r) st n R σ := by
  obtain ⟨⟨p, l, e, s, m⟩, ⟨args, below, meth, c⟩, D, g, ext, base, n0, rm⟩ := K
  intro ok H locs ls hW hS hl
  exact lv_aload_n ok.1 ok.2.1 hd rfl (lvA_get (i := 3) (v := .retAddr x) hl rfl) (h ok H locs ls hW hS hl)
theorem ag_xload_3 {α : Type} {K : KT} {M : MT} {N : Nat} {t : α → TT} {j : Option α} {pc q : Nat} {st : List Value} {σ : Sg} {a0 a1 a2 : Option Value} {r : List (Option Value)} {x : Nat} (hd : decode M.2.1 pc = .ok (.aload_n 3, 1)) (hq : pc + 1 = q) (h : AG K M N t j q (a0 :: a1 :: a2 :: some (.retAddr x) :: r) (.retAddr x :: st) σ) : AG K M N t j pc (a0 :: a1 :: a2 :: some (.retAddr x) :: r) st σ := by
  subst hq; exact fun a e nN => aw_xload_3 hd (h a e nN)
theorem ag_slen {α : Type} {K : KT} {M : MT} {N : Nat} {t : α → TT} {j : Option α} {pc q : Nat} {L : List (Option Value)} {st : List Value} {σ : Sg} {Ln : Nat} {xs : Nat → Int32} (hX : KX K Ln xs) (hd : decode M.2.1 pc = .ok (.arraylength, 1)) (hq : pc + 1 = q) (h : AG K M N t j q L (.int (Int32.ofNat Ln) :: st) σ) : AG K M N t j pc L (.retAddr 1 :: st) σ := by
  subst hq; exact fun a e nN => aw_slen hX hd rfl (h a e nN)
theorem ag_sld {α : Type} {K : KT} {M : MT} {N : Nat} {t : α → TT} {j : Option α} {pc q : Nat} {L : List (Option Value)} {st : List Value} {σ : Sg} {Ln : Nat} {xs : Nat → Int32} {i : Int32} (hX : KX K Ln xs) (hd : decode M.2.1 pc = .ok (.iaload, 1)) (hq : pc + 1 = q) (h : AG K M N t j q L (.int (xs i.toNatClampNeg) :: st) σ) : AG K M N t (if inb i Ln = true then j else none) pc L (.int i :: .retAddr 1 :: st) σ := by
  subst hq; exact ag_chk (fun z a e nN => aw_sld hX hd z (h a e nN))
/-! cells made while the law runs: their length is min 36 of slot 99 -/
theorem sh_dyn {c : Nat} (h : NT ≤ c) : sh c = (13, 36) := by
  unfold sh
  rw [List.getD_eq_getElem?_getD, List.getElem?_eq_none]
  · rfl
  · exact Nat.le_trans (by decide +kernel : shl.length ≤ 143) h
theorem cE_dyn {g : CG} {base : Nat} {R : Rg} {σ : Sg} {c : Nat} (hs : sh c = (13, 36)) : cE g base R σ c = .inl (g.1, dl σ c, .inl (σ c)) := by
  unfold cE
  rw [hs]
  rfl
def nwa (σ : Sg) (c len : Nat) : Sg := fun a j => if a = c then (if j = 99 then Int32.ofNat len else 0) else σ a j
theorem nwa_ne {σ : Sg} {c len a : Nat} (h : a ≠ c) : nwa σ c len a = σ a := by
  funext j
  simp [nwa, h]
theorem dl_nwa {σ : Sg} {c len : Nat} (h : len ≤ 36) : dl (nwa σ c len) c = len := by
  unfold dl nwa
  rw [if_pos rfl, if_pos rfl]
  have : (Int32.ofNat len).toNatClampNeg = len := (by decide +kernel : ∀ n, n ≤ 36 → (Int32.ofNat n).toNatClampNeg = n) len h
  rw [this]
  omega
theorem dl_up {σ : Sg} {c i : Nat} {v : Int32} (h : i < dl σ c) : dl (up σ c i v) c = dl σ c := by
  have h2 : i < 36 := Nat.lt_of_lt_of_le h (Nat.min_le_left _ _)
  unfold dl up
  rw [if_neg (by omega)]
section DYN
variable {K : KT} {M : MT} {T : TT} {pc : Nat} {L : List (Option Value)} {st : List Value} {n : Nat} {R : Rg} {σ : Sg}
theorem aw_newd {len : Nat} {nn : Int32} (hd : decode M.2.1 pc = .ok (.newarray .int, 2)) (hac : Cond.arrayClass .int ∈ wT) (hs : sh n = (13, 36)) (hn1 : ¬ nn < 0) (hn2 : nn.toNatClampNeg = len) (h36 : len ≤ 36) (hn : n + 1 ≤ T.2.1) (h : AW K M T (pc + 2) L (.ref n :: st) (n + 1) R (nwa σ n len)) : AW K M T pc L (.int nn :: st) n R σ := by
  obtain ⟨⟨p, l, e, s, m⟩, ⟨args, below, meth, c0⟩, D, g, ext, base, n0, rm⟩ := K
  intro ok H locs ls hW hS hl
  obtain ⟨hx, hb, hre, hml, hown, hts, hKS, hlo, hbs, hn0, hnT, hF, hLo, hCe, hSl⟩ := id ok
  have q1 := szs_le hn0
  have q2 := szs_le hn
  have e2 : csz n = 36 := by
    unfold csz
    rw [hs]
    rfl
  have e3 : szs (n + 1) = szs n + csz n := rfl
  have hce : n - n0 + 1 ≤ rm.cells := by omega
  have hse : szs n - szs n0 + len ≤ rm.slots := by omega
  refine va_newaK (atype := .int) (g := F0 m pc ls ((.int nn :: st).map (cv (base, ext)))) hx hb (hts _ hac) rfl hd rfl hn1 hn2 (show len * 4 ≤ 536870912 by omega) hce hse rfl fun H1 cA e1 z1 o1 hAr hNm => ?_
  have hcA : cA = g.1 := Option.some.inj (hNm.symm.trans (hKS.1.2 0 _ rfl).2)
  subst hcA
  have hH : H.size = base + n := hW.1
  refine W.widen (k := n + 1 - n0) (n := szs (n + 1) - szs n0) (by omega) (by omega) ?_
  rw [hH]
  rw [hH] at e1
  have hW2 : WD D g base n R (nwa σ n len) H := ⟨hW.1, fun a ha => by
    rw [cE_congr (R' := R) (nwa_ne (Nat.ne_of_lt ha)) rfl]
    exact hW.2 a ha⟩
  refine h ⟨hx, hb, hre, hml, hown, hts, hKS, hlo, hbs, by omega, hn, hF, hLo, hCe, hSl⟩ H1 locs ls (hW2.push z1 o1 ?_) (hS.push z1 o1) hl
  rw [cE_dyn hs, dl_nwa h36]
  show H1[base + n]? = some (vp_cell _ _)
  rw [e1, vp_cell_i]
  congr 1
  refine arrV_ext (fun j hj => ?_)
  have : nwa σ n len n j = 0 := by
    unfold nwa
    rw [if_pos rfl, if_neg (by omega)]
  rw [this]
  rfl
theorem aw_ialdD {c : Nat} {i : Int32} (hd : decode M.2.1 pc = .ok (.iaload, 1)) (hc : c < n) (hs : sh c = (13, 36)) (hi : inb i (dl σ c) = true) (h : AW K M T (pc + 1) L (.int (σ c i.toNatClampNeg) :: st) n R σ) : AW K M T pc L (.int i :: .ref c :: st) n R σ := by
  obtain ⟨⟨p, l, e, s, m⟩, ⟨args, below, meth, c0⟩, D, g, ext, base, n0, rm⟩ := K
  intro ok H locs ls hW hS hl
  have hat := hW.2 c hc
  rw [cE_dyn hs] at hat
  obtain ⟨hx, hb, hr', hml, hown, hts, hKS, hlo, hbs, hn0, hnT, hF, hLo, hCe, hSl⟩ := id ok
  exact va_iald hx hb hKS.1 (va_P1 hat) 0 0 rfl rfl (inb_vp hi) hd (h ok H locs ls hW hS hl)
theorem aw_iastD {c : Nat} {i v : Int32} (hd : decode M.2.1 pc = .ok (.iastore, 1)) (hc : c < n) (hs : sh c = (13, 36)) (hi : inb i (dl σ c) = true) (h : AW K M T (pc + 1) L st n R (up σ c i.toNatClampNeg v)) : AW K M T pc L (.int v :: .int i :: .ref c :: st) n R σ := by
  obtain ⟨⟨p, l, e, s, m⟩, ⟨args, below, meth, c0⟩, D, g, ext, base, n0, rm⟩ := K
  intro ok H locs ls hW hS hl
  have hat := hW.2 c hc
  rw [cE_dyn hs] at hat
  obtain ⟨hx, hb, hre, hml, hown, hts, hKS, hlo, hbs, hn0, hnT, hF, hLo, hCe, hSl⟩ := id ok
  have hlt : i.toNatClampNeg < dl σ c := by
    simp only [inb, Bool.and_eq_true, decide_eq_true_eq] at hi
    exact hi.2
  refine W.iast hx hb hat ((hKS.1.2 0 _ rfl).1 (dl σ c) (fun j => .int (σ c j))) (fun q => by cases q) (by show ¬ (i < 0 ∨ (arrV _ _ _).slots.size ≤ _); rw [arrV_size]; exact inb_vp hi) rfl rfl hd fun H1 e1 e2 e3 => ?_
  refine h ok H1 _ ls (hW.put e2 e3 (fun a ha => (up_ne ha).symm) (fun _ _ => rfl) ?_) (hS.put e2 e3 (Nat.le_add_right _ _)) hl
  rw [cE_dyn hs, dl_up hlt]
  show H1[base + c]? = some (vp_cell _ _)
  rw [e1, vp_cell_i, vp_cell_i, arrV_store, up_self]
  congr 2
  funext q
  by_cases hq : q = i.toNatClampNeg
  · subst hq
    simp [updV, upd]
  · simp [updV, upd, hq]
/-! contracts that carry the script -/
def XX (ext : Nat → Nat) (base Ln : Nat) (xs : Nat → Int32) (U : State) (H : Heap) : Prop := va_X (ext 1) Ln xs U H ∧ ext 1 < base ∧ base ≤ H.size
theorem XX.moved {ext : Nat → Nat} {base Ln : Nat} {xs : Nat → Int32} {u U : State} {H H1 : Heap} (hW : u.WarmedH U.vm) (h : va_X (ext 1) Ln xs u H ∧ ext 1 < base) (hb : base ≤ H.size) (hz : base ≤ H1.size) (hq : ∀ a : Nat, a < H.size → ¬ base ≤ a → H1[a]? = H[a]?) : XX ext base Ln xs U H1 :=
  ⟨(va_X.moved hW.alike h.1).kept (hq _ (Nat.lt_of_lt_of_le h.2 hb) (Nat.not_le.mpr h.2)), h.2, hz⟩
theorem XX.same {ext : Nat → Nat} {base Ln : Nat} {xs : Nat → Int32} {u U : State} {H : Heap} (hv : u.vm = U.vm) (h : XX ext base Ln xs u H) : XX ext base Ln xs U H :=
  have ha : u.vm.Alike U.vm := by rw [hv]; exact Vm.Alike.refl U.vm
  ⟨va_X.moved ha h.1, h.2⟩
def AMx (Ln : Nat) (xs : Nat → Int32) (y : MethodName) (M : MT) (av : List Value) (n : Nat) (R : Rg) (σ : Sg) (T : TT) : Prop := ∀ (l : Launch) (D : va_G) (g : CG) (ext : Nat → Nat) (base : Nat),
  Met l y (.code y M.2.1 M.2.2.1 M.2.2.2.1 :: wT) (roomOf M.2.2.2.2 n T.2.1) (va_Pc (av.map (cv (base, ext))) (fun U => WD D g base n R σ U.heap ∧ KS D g ext base U U.heap ∧ XX ext base Ln xs U U.heap)) (QC D g base ext T) (T.2.1 - n) (szs T.2.1 - szs n) (fun q => base ≤ q)
theorem KSx.blind {D : va_G} {g : CG} {ext : Nat → Nat} {base Ln : Nat} {xs : Nat → Int32} {av : List Value} : FrameBlind (va_Pc av (fun U => WD D g base n R σ U.heap ∧ KS D g ext base U U.heap ∧ XX ext base Ln xs U U.heap)) := fun _ U _ _ q => ⟨q.1, q.2.1, KS.same (u := U) rfl q.2.2.1, XX.same (u := U) rfl q.2.2.2⟩
theorem AMx.of {Ln : Nat} {xs : Nat → Int32} {y : MethodName} {av : List Value} (hy : plainName y.cls = true) (hM : y.cls = M.1) (hlv : ∀ bt, lvA bt 0 L = lv_args 0 (av.map (cv bt))) (hle : ∀ bt, (lg_sl (av.map (cv bt))).length ≤ M.2.2.1) (hn : n ≤ T.2.1) (h : ∀ K, KX K Ln xs → AW K M T 0 L [] n R σ) : AMx Ln xs y M av n R σ T := by
  intro l D g ext base
  refine Met.ofW (cc := M.2.1) (maxL := M.2.2.1) (ret := M.2.2.2.1) hy rfl ?_
  intro p e s m args below meth c s₁ B hml hv
  obtain ⟨rfl, hWD, hKS, hX⟩ := hv
  have hts0 := atoms_spec (ws := Cond.code y M.2.1 M.2.2.1 M.2.2.2.1 :: wT) B.pre
  have hl := lv_entry (av.map (cv (base, ext))) (n := M.2.2.1) (hle (base, ext))
  rw [← hlv] at hl
  rw [lg_entry_eq]
  have hb : base ≤ s.heap.size := by rw [hWD.1]; omega
  have hown : s.vm.findClass M.1 = some m.cls := by rw [← hM]; exact findClass_of_methodNamed B.named
  have z := h ((p, l, e, s, m), ((av.map (cv (base, ext))).toArray, below, meth, c), D, g, ext, base, n, roomOf M.2.2.2.2 n T.2.1) ⟨hX.1, hX.2.1⟩ ⟨B.exec, B.bytes, B.returns, hml, hown, fun w hw => hts0 w (List.mem_cons_of_mem _ hw), hKS, B.notSynchronized, hb, Nat.le_refl _, hn, Nat.le_refl _, Nat.le_refl _, Nat.le_refl _, Nat.le_refl _⟩ s.heap [] _ hWD va_S.rf hl
  rw [Nat.sub_self, Nat.sub_self] at z
  exact z
theorem aw_callSX {Ln : Nat} {xs : Nat → Int32} {y : MethodName} {M' : MT} {idx : Nat} {av rest : List Value} {r : Option Value} {n1 : Nat} {R1 : Rg} {σ1 : Sg} (hd : decode M.2.1 pc = .ok (.invokestatic idx, 3)) (hl0 : LVS M.1 idx y M' av.length) (hX : KX K Ln xs) (hm : AMx Ln xs y M' av n R σ (r, n1, R1, σ1)) (hdep : M'.2.2.2.2 + 1 ≤ M.2.2.2.2) (hmx : M'.2.2.1 ≤ 60) (hn1 : n ≤ n1) (hn2 : n1 ≤ T.2.1) (hw8 : (rest.map fun v => v.category).sum ≤ 8) (hst : st = av.reverse ++ rest) (h : AW K M T (pc + 3) L (r.toList ++ rest) n1 R1 σ1) : AW K M T pc L st n R σ := by
  obtain ⟨⟨p, l, e, s, m⟩, ⟨args, below, meth, c0⟩, D, g, ext, base, n0, rm⟩ := K
  intro ok H locs ls hW hS hl
  obtain ⟨hx, hb, hre, hml, hown, hts, hKS, hlo, hbs, hn0, hnT, hF, hLo, hCe, hSl⟩ := id ok
  have q1 := szs_le hn0
  have q2 := szs_le hn1
  have q3 := szs_le hn2
  have hG : GoodIn wT (va_wsS M.1 idx y (Cond.code y M'.2.1 M'.2.2.1 M'.2.2.2.1 :: wT)) := gT fun w hw => by
    rcases List.mem_append.mp hw with h | h
    · exact hl0.1 w (List.mem_append_left _ h)
    · rcases List.mem_cons.mp h with h | h
      · exact hl0.1 w (List.mem_append_right _ (by rw [h]; exact List.mem_cons_self))
      · exact h
  have hr := va_runS (l := l) (e := e) (R := rm) (below := below) (meth := meth) (H := H) (locs := locs) (cells := n - n0) (slots := szs n - szs n0) (As := av.map (cv (base, ext))) (rest := rest.map (cv (base, ext))) (g := F0 m pc ls (st.map (cv (base, ext)))) ⟨hx, hb, hml, hown, hts⟩ (hm l D g ext base) (va_cwS av.length hts hG rfl rfl rfl hl0.2 ⟨by show M'.2.2.2.2 + 1 ≤ rm.frames; omega, by show 8 + (M'.2.2.1 + 11) + 100 * M'.2.2.2.2 ≤ rm.locals; omega⟩)
    ⟨KSx.blind, fun U hU hWm => ⟨rfl, (by rw [hU]; exact hW), (by rw [hU]; exact KS.moved hWm hKS hS.2.1), (by rw [hU]; exact XX.moved hWm hX hbs (Nat.le_trans hbs hS.1) hS.2.1)⟩⟩ rfl (by simp) hl.1 (by subst hst; show List.map _ _ = _; rw [List.map_append, List.map_reverse]) (lv_room (by rw [cat_map]; exact hw8)) hd ⟨by show n - n0 + (n1 - n) ≤ rm.cells; omega, by show szs n - szs n0 + (szs n1 - szs n) ≤ rm.slots; omega⟩
  exact aw_fin (K0 := (p, l, e, s, m)) ok hW hS hl hn1 hn2 hr h
end DYN
def tA (a : Int32 × Nat × Sg) : TT := (some (.int a.1), a.2.1, R0, a.2.2)
def ckA (n : Nat) (j : Option (Int32 × Nat × Sg)) : Option (Int32 × Nat × Sg) := match j with
  | none => none
  | some a => if n ≤ a.2.1 then some a else none
theorem ckA_some {n : Nat} {j : Option (Int32 × Nat × Sg)} {a : Int32 × Nat × Sg} (h : ckA n j = some a) : j = some a ∧ n ≤ a.2.1 := by
  cases j with
  | none => cases h
  | some b =>
    unfold ckA at h
    dsimp only at h
    split at h
    · cases h
      exact ⟨rfl, by assumption⟩
    · cases h
def bd3 (N : Nat) (o : Option (Int32 × Nat × Sg)) (k : Int32 → Nat → Sg → Option (Int32 × Nat × Sg)) : Option (Int32 × Nat × Sg) := match o with
  | none => none
  | some a => if N ≤ a.2.1 then ckA a.2.1 (k a.1 a.2.1 a.2.2) else none
theorem bd3_some {N : Nat} {o : Option (Int32 × Nat × Sg)} {k : Int32 → Nat → Sg → Option (Int32 × Nat × Sg)} {b : Int32 × Nat × Sg} (h : bd3 N o k = some b) : ∃ r n s, o = some (r, n, s) ∧ N ≤ n ∧ n ≤ b.2.1 ∧ k r n s = some b := by
  cases o with
  | none => cases h
  | some a =>
    unfold bd3 at h
    dsimp only at h
    split at h
    · obtain ⟨h1, h2⟩ := ckA_some h
      exact ⟨a.1, a.2.1, a.2.2, rfl, by assumption, h2, h1⟩
    · cases h
section DYNG
variable {K : KT} {M : MT} {N pc q : Nat} {L : List (Option Value)} {st : List Value} {σ : Sg}
theorem ag_newd {j : Option (Int32 × Nat × Sg)} {nn : Int32} {len : Nat} (hd : decode M.2.1 pc = .ok (.newarray .int, 2)) (hq : pc + 2 = q) (hac : Cond.arrayClass .int ∈ wT) (hN : NT ≤ N) (hn1 : ¬ nn < 0) (hn2 : nn.toNatClampNeg = len) (h36 : len ≤ 36) (h : AG K M (N + 1) tA j q L (.ref N :: st) (nwa σ N len)) : AG K M N tA (ckA (N + 1) j) pc L (.int nn :: st) σ := by
  subst hq
  intro a e nN
  obtain ⟨e1, e2⟩ := ckA_some e
  exact aw_newd hd hac (sh_dyn hN) hn1 hn2 h36 e2 (h a e1 e2)
theorem ag_callS_aI {j0 : Option (Int32 × Nat × Sg)} {k : Int32 → Nat → Sg → Option (Int32 × Nat × Sg)} {y : MethodName} {M' : MT} {idx : Nat} {av rest : List Value} (hd : decode M.2.1 pc = .ok (.invokestatic idx, 3)) (hq : pc + 3 = q) (hl : LVS M.1 idx y M' av.length) (hm : ∀ r n s', j0 = some (r, n, s') → N ≤ n → AMc y M' av N R0 σ (some (.int r), n, R0, s')) (hdep : M'.2.2.2.2 + 1 ≤ M.2.2.2.2) (hmx : M'.2.2.1 ≤ 60) (hw8 : (rest.map fun v => v.category).sum ≤ 8) (hst : st = av.reverse ++ rest) (h : ∀ r n s', j0 = some (r, n, s') → N ≤ n → AG K M n tA (k r n s') q L (.int r :: rest) s') : AG K M N tA (bd3 N j0 k) pc L st σ := by
  subst hq
  intro a e nN
  obtain ⟨r, n, s', e1, e2, e3, e4⟩ := bd3_some e
  exact aw_callS hd hl (hm r n s' e1 e2) hdep hmx e2 e3 hw8 hst (h r n s' e1 e2 a e4 e3)
end DYNG
theorem ag_ialdD {α : Type} {K : KT} {M : MT} {N : Nat} {t : α → TT} {j : Option α} {pc q : Nat} {L : List (Option Value)} {st : List Value} {σ : Sg} {c : Nat} {i : Int32} (hd : decode M.2.1 pc = .ok (.iaload, 1)) (hq : pc + 1 = q) (hc : c < N) (hs : sh c = (13, 36)) (h : AG K M N t j q L (.int (σ c i.toNatClampNeg) :: st) σ) : AG K M N t (if inb i (dl σ c) = true then j else none) pc L (.int i :: .ref c :: st) σ := by
  subst hq; exact ag_chk (fun z a e nN => aw_ialdD hd hc hs z (h a e nN))
theorem ag_iastD {α : Type} {K : KT} {M : MT} {N : Nat} {t : α → TT} {j : Option α} {pc q : Nat} {L : List (Option Value)} {st : List Value} {σ : Sg} {c : Nat} {i v : Int32} (hd : decode M.2.1 pc = .ok (.iastore, 1)) (hq : pc + 1 = q) (hc : c < N) (hs : sh c = (13, 36)) (h : AG K M N t j q L st (up σ c i.toNatClampNeg v)) : AG K M N t (if inb i (dl σ c) = true then j else none) pc L (.int v :: .int i :: .ref c :: st) σ := by
  subst hq; exact ag_chk (fun z a e nN => aw_iastD hd hc hs z (h a e nN))
theorem ag_callSX_mI {α : Type} {K : KT} {M : MT} {N : Nat} {t : α → TT} {pc q : Nat} {L : List (Option Value)} {st : List Value} {σ : Sg} {Ln : Nat} {xs : Nat → Int32} {j0 : Option (Int32 × Sg)} {k : Int32 → Sg → Option α} {y : MethodName} {M' : MT} {idx : Nat} {av rest : List Value} (hX : KX K Ln xs) (hd : decode M.2.1 pc = .ok (.invokestatic idx, 3)) (hq : pc + 3 = q) (hl : LVS M.1 idx y M' av.length) (hm : ∀ r s', j0 = some (r, s') → AMx Ln xs y M' av N R0 σ (some (.int r), N, R0, s')) (hdep : M'.2.2.2.2 + 1 ≤ M.2.2.2.2) (hmx : M'.2.2.1 ≤ 60) (hw8 : (rest.map fun v => v.category).sum ≤ 8) (hst : st = av.reverse ++ rest) (h : ∀ r s', j0 = some (r, s') → AG K M N t (k r s') q L (.int r :: rest) s') : AG K M N t (bd2 j0 k) pc L st σ := by
  subst hq
  intro a e nN
  obtain ⟨r, s', e1, e2⟩ := bd2_some e
  exact aw_callSX hd hl hX (hm r s' e1) hdep hmx (Nat.le_refl _) nN hw8 hst (h r s' e1 a e2 nN)
theorem ag_callSX_pI {α : Type} {K : KT} {M : MT} {N : Nat} {t : α → TT} {pc q : Nat} {L : List (Option Value)} {st : List Value} {σ : Sg} {Ln : Nat} {xs : Nat → Int32} {j0 : Option Int32} {k : Int32 → Option α} {y : MethodName} {M' : MT} {idx : Nat} {av rest : List Value} (hX : KX K Ln xs) (hd : decode M.2.1 pc = .ok (.invokestatic idx, 3)) (hq : pc + 3 = q) (hl : LVS M.1 idx y M' av.length) (hm : ∀ r, j0 = some r → AMx Ln xs y M' av N R0 σ (some (.int r), N, R0, σ)) (hdep : M'.2.2.2.2 + 1 ≤ M.2.2.2.2) (hmx : M'.2.2.1 ≤ 60) (hw8 : (rest.map fun v => v.category).sum ≤ 8) (hst : st = av.reverse ++ rest) (h : ∀ r, j0 = some r → AG K M N t (k r) q L (.int r :: rest) σ) : AG K M N t (bd1 j0 k) pc L st σ := by
  subst hq
  intro a e nN
  obtain ⟨r, e1, e2⟩ := bd1_some e
  exact aw_callSX hd hl hX (hm r e1) hdep hmx (Nat.le_refl _) nN hw8 hst (h r e1 a e2 nN)
