/-! methods of the library's classes: plain by their name -/
theorem Met_ofF {l : Launch} {y : MethodName} {ws ws' : List Cond} {rm : Room} {Pc : Array Value → State → Prop} {Qc : Array Value → State → Outcome → State → Prop} {mc ms : Nat} {free : Addr → Prop} {cc : ByteArray} {maxL : Nat} {ret : Option FieldType}
    (hy : plainFor y = true) (hw : ws = Cond.code y cc maxL ret :: ws')
    (body : ∀ p e s m args below meth c s₁, BodyLoose p l y (headSpec ws rm) cc maxL ret e s m args below meth c s₁ → c.maxLocals = maxL → Pc args s →
      W p l e (headSpec ws rm).room s m args below meth c s.heap [] 0 0 (MQ below Qc args s mc ms free) (entryFrame m args maxL)) : Met l y ws rm Pc Qc mc ms free := by
  refine MetFree.of_bodySF (code := cc) (maxLocals := maxL) (ret := ret) hy ?_ ?_
  · intro args s m h hn
    obtain ⟨meth, c, h1, h2, h3, h4, h5, h6, -, -⟩ := Cond.code_spec hn (atoms_spec (ws := ws) h _ (by rw [hw]; exact List.mem_cons_self))
    exact ⟨meth, c, h1, h2, h3, h4, h5, h6⟩
  · intro p e s m args below meth c s₁ B hml hP _
    have hh0 : s₁.heap = s.heap := by rw [B.state]; rfl
    obtain ⟨t, a1, o, b1, b2, b3⟩ := body p e s m args below meth c s₁ B hml hP s₁ hh0 (Stand.of_body B)
    exact ⟨t, o, a1, b1, b2, ⟨b3.1, b3.2⟩⟩
theorem AMc_ofF {M : MT} {T : TT} {L : List (Option Value)} {n : Nat} {R : Rg} {σ : Sg} {y : MethodName} {av : List Value} (hy : plainFor y = true) (hM : y.cls = M.1) (hlv : ∀ bt, lvA bt 0 L = lv_args 0 (av.map (cv bt))) (hle : ∀ bt, (lg_sl (av.map (cv bt))).length ≤ M.2.2.1) (hn : n ≤ T.2.1) (h : ∀ K, AW K M T 0 L [] n R σ) : AMc y M av n R σ T := by
  intro l D g ext base
  refine Met_ofF (cc := M.2.1) (maxL := M.2.2.1) (ret := M.2.2.2.1) hy rfl ?_
  intro p e s m args below meth c s₁ B hml hv
  obtain ⟨rfl, hWD, hKS⟩ := hv
  have hts0 := atoms_spec (ws := Cond.code y M.2.1 M.2.2.1 M.2.2.2.1 :: wT) B.pre
  have hl := lv_entry (av.map (cv (base, ext))) (n := M.2.2.1) (hle (base, ext))
  rw [← hlv] at hl
  rw [lg_entry_eq]
  have hb : base ≤ s.heap.size := by rw [hWD.1]; omega
  have hown : s.vm.findClass M.1 = some m.cls := by rw [← hM]; exact findClass_of_methodNamed B.named
  have z := h ((p, l, e, s, m), ((av.map (cv (base, ext))).toArray, below, meth, c), D, g, ext, base, n, roomOf M.2.2.2.2 n T.2.1) ⟨B.exec, B.bytes, B.returns, hml, hown, fun w hw => hts0 w (List.mem_cons_of_mem _ hw), hKS, B.notSynchronized, hb, Nat.le_refl _, hn, Nat.le_refl _, Nat.le_refl _, Nat.le_refl _, Nat.le_refl _⟩ s.heap [] _ hWD va_S.rf hl
  rw [Nat.sub_self, Nat.sub_self] at z
  exact z
