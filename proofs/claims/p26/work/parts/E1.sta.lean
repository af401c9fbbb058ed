/-! THE CLAIM OUT OF ONE WALK OF THE LAW'S BODY. Your part is whole_start (and what it stands on); all else here is the same for every law, but numbers. -/
def R_law : String := "SheepChessLaw"
def lw_P (b : Addr) (xs : List Int32) (args : Array Value) (s : State) : Prop := args = #[.ref b] ∧ s.IntsAt b xs ∧ xs.length ≤ 260 ∧ (Jvm.Cond.and given_1 narrow_1).before args s = true
def lw_Q (_ : Array Value) (s : State) (o : Outcome) (t : State) : Prop := o = .returned (some (.int 1)) ∧ Framed s o t [] 600000 7302250
def lw_Z (below : List Frame) (a : Array Value) (s : State) : State → Prop := fun t => ∃ o, t.status = .running ∧ Ended t below o ∧ lw_Q a s o t
/-- the law's own end, with 1 on the stack, nothing written that was there before, its room as the claim has it -/
theorem lw_ret {p : Program} {l : Launch} {e : Env} {s : State} {m : MethodId} {below : List Frame} {meth : Method} {c : Code} {b : Nat} (hx : p.tables.exec = Jvm.exec) (hb : c.code = code) (hr : meth.sig.returnType = ret) (hlocks : meth.locks = false) {pc : Nat} {H : Heap} {ls : Array Slot} (hdg : decode code pc = .ok (.ireturn, 1)) : W p l e room_1 s m #[Value.ref b] below meth c H [] 600000 7302250 (lw_Z below #[Value.ref b] s) (F0 m pc ls [.int 1]) := by
  intro T hT X
  obtain ⟨fs, hret, hrun, hended, hW, hframe⟩ := X.leave (v := some (.int 1)) (hlocks := hlocks) (fun h => by rw [hr] at h; cases h)
  have hmeth' : T.vm.method? m = some meth := X.method'
  refine ⟨T.setFrames fs, ?_, .returned (some (.int 1)), hrun, hended, rfl, ⟨_, rfl⟩, hW, hframe⟩
  jvm_step X.here [X.here.top, hx, hb, hdg, hmeth', hr, ret, narrow_b1]
  (try refine ⟨rfl, ?_⟩); (try refine ⟨rfl, ?_⟩)
  first | (intro acts; rw [hret _ acts rfl rfl rfl]) | rw [hret _ _ rfl rfl rfl]
  exact Steps.refl _
/-- what holds at the law's entry: the machine, the code, the tables' words (any of lw_tbl by 'hts w (by decide +kernel)'), the script of L ints xs at the cell b, what the Statement gives of the start (any of its parts by flat_of_before) -/
def lw_At (p : Program) (s : State) (m : MethodId) (meth : Method) (c : Code) (b L : Nat) (xs : Nat → Int32) : Prop :=
  p.tables.exec = Jvm.exec ∧ c.code = code ∧ meth.sig.returnType = ret ∧ c.maxLocals = 11 ∧ s.vm.findClass R_law = some m.cls ∧ (∀ w ∈ lw_tbl, w.before #[Value.ref b] s = true) ∧ va_X b L xs s s.heap ∧ b < s.heap.size ∧ meth.locks = false ∧ (Jvm.Cond.and given_1 narrow_1).before #[Value.ref b] s = true
/-! the start: what the tables and the Statement's words give -/
def tmT : Term := .field (.string "SheepChess" 69) "java/lang/String" "value" "[B"
theorem el_113 : ∀ j, j < 113 → Cond.eq (.elem tmT (.int (Int32.ofNat j))) (.int (firstB.getD j 0)) ∈ flatC (Jvm.Cond.and given_1 narrow_1) := by decide +kernel
def tmW : Term := .static "SheepChess" "WORTHS" "[I"
theorem el_4 : ∀ j, j < 4 → Cond.eq (.elem tmW (.int (Int32.ofNat j))) (.int (wsI j)) ∈ flatC (Jvm.Cond.and given_1 narrow_1) := by decide +kernel
theorem nest_in : ∀ w ∈ nestW, w ∈ lw_tbl := by decide +kernel
theorem nest_on : ∀ w ∈ nestW, w.onTables = true := by decide +kernel
theorem va_KI {s : State} {args : Array Value} {ty : FieldType} (h : (Cond.arrayClass ty).before args s = true) (hty : ty = .int ∨ ty = .boolean) : ∃ cA : ClassId, ArrOfT s cA ty ∧ va_RA s cA ty := by
  obtain ⟨cA, k, comp, h1, h2, h3⟩ := Cond.arrayClass_spec h
  refine ⟨cA, fun n z => ⟨fun k' hk' => ?_, k, h2, comp, h3⟩, ?_⟩
  · cases hk'
  · rcases hty with rfl | rfl <;> exact h1
theorem va_KM {s : State} {args : Array Value} {C : String} (h : (Cond.arrayOver (.object C)).before args s = true) : ∃ cA : ClassId, ArrOfT s cA (.object C) ∧ va_RA s cA (.object C) := by
  obtain ⟨comp, cA, k, h1, h2, h3, h4, h5⟩ := Cond.arrayOver_spec h
  refine ⟨cA, fun n z => ⟨fun k' hk' => ?_, k, h3, comp, h4⟩, k, comp, h3, h4, h1, h5⟩
  cases hk'
set_option maxRecDepth 100000 in
set_option maxHeartbeats 4000000 in
theorem st_KS {p : Program} {s : State} {m : MethodId} {meth : Method} {c : Code} {b L : Nat} {xs : Nat → Int32} (C0 : lw_At p s m meth c b L xs) : ∃ (D : va_G) (g : CG) (ext : Nat → Nat), ext 1 = b ∧ KS D g ext s.heap.size s s.heap ∧ XO ext s.heap.size s s.heap := by
  obtain ⟨hx, hb, hr, hml, hown, hts, hX, hbl, hlocks, hgv⟩ := id C0
  have hw : ∀ w ∈ wT, w.before #[Value.ref b] s = true := fun w h => hts w (wT_sub h)
  have hs := flat_of_before _ hgv
  have hA : ∀ a : Nat, a < s.heap.size → ¬ (fun q : Nat => s.heap.size ≤ q) a := fun a h => Nat.not_le.mpr h
  obtain ⟨c0, i0, k0⟩ := u_known (C := RX0) (T := TX0) (N := 5) (n := 5) hw cf0.2.2.2.1 (hw _ (wTi 235 rfl rfl))
  obtain ⟨c1, i1, k1⟩ := u_known (C := RX1) (T := TX1) (N := 9) (n := 9) hw cf1.2.2.2.1 (hw _ (wTi 45 rfl rfl))
  obtain ⟨c2, i2, k2⟩ := u_known (C := RX2) (T := TX2) (N := 6) (n := 6) hw cf2.2.2.2.1 (hw _ (wTi 110 rfl rfl))
  obtain ⟨c3, i3, k3⟩ := u_known (C := RX3) (T := TX3) (N := 5) (n := 5) hw cf3.2.2.2.1 (hw _ (wTi 160 rfl rfl))
  obtain ⟨c4, i4, k4⟩ := u_known (C := RX4) (T := TX4) (N := 2) (n := 2) hw cf4.2.2.2.1 (hw _ (wTi 166 rfl rfl))
  obtain ⟨c5, i5, k5⟩ := u_known (C := RX5) (T := TX5) (N := 5) (n := 5) hw cf5.2.2.2.1 (hw _ (wTi 102 rfl rfl))
  obtain ⟨c6, i6, k6⟩ := u_known (C := RX6) (T := TX6) (N := 8) (n := 8) hw cf6.2.2.2.1 (hw _ (wTi 201 rfl rfl))
  obtain ⟨c7, i7, k7⟩ := u_known (C := RX7) (T := TX7) (N := 9) (n := 9) hw cf7.2.2.2.1 (hw _ (wTi 37 rfl rfl))
  have k8 : u_Kn s RX7 TX8 0 c7 i7 := ⟨fun k hk => absurd hk (Nat.not_lt_zero k), k7.2⟩
  obtain ⟨cI, gI1, gI2⟩ := va_KI (hw _ hacI) (Or.inl rfl)
  obtain ⟨cZ, gZ1, gZ2⟩ := va_KI (hw _ hacZ) (Or.inr rfl)
  have hao : (Cond.arrayOver (.object RX2)).before #[Value.ref b] s = true := hts _ (by decide +kernel)
  obtain ⟨cM, gM1, gM2⟩ := va_KM hao
  obtain ⟨tw, etw, hTw⟩ := va_Tof (N := 4) (f := worths) (ty := .int) (tm := tmW) (A := fun q : Nat => s.heap.size ≤ q) (by decide) (hs _ (by decide +kernel)) (va_eqt (hs _ (by decide +kernel))) (fun j hj => va_eqt (hs _ (el_4 j hj))) hA
  have hex : (Cond.exactly (.string "SheepChess" 69) "java/lang/String").before #[Value.ref b] s = true := hs _ (by decide +kernel)
  obtain ⟨ts, _, _, _, ets, -⟩ := Cond.exactly_spec hex
  obtain ⟨tb, etb, hTb⟩ := va_Tof (N := 113) (f := fun j => .int (firstB.getD j 0)) (ty := .byte) (tm := tmT) (A := fun q : Nat => s.heap.size ≤ q) (by decide) (hs _ (by decide +kernel)) (va_eqt (hs _ (by decide +kernel))) (fun j hj => va_eqt (hs _ (el_113 j hj))) hA
  have hZs := va_Zqof (A := fun q : Nat => s.heap.size ≤ q) (hts (.laysStatic "jdk/internal/util/Preconditions" "SIOOBE_FORMATTER" "Ljava/util/function/BiFunction;") (by decide +kernel)) (hts (.initialized "jdk/internal/util/Preconditions") (by decide +kernel)) (hs _ (by decide +kernel)) hA
  obtain ⟨si, hsi⟩ : ∃ si : Nat, va_Z "jdk/internal/util/Preconditions" "SIOOBE_FORMATTER" "Ljava/util/function/BiFunction;" .null (fun q => s.heap.size ≤ q) s s.heap ∨ va_Z "jdk/internal/util/Preconditions" "SIOOBE_FORMATTER" "Ljava/util/function/BiFunction;" (.ref si) (fun q => s.heap.size ≤ q) s s.heap := by
    rcases hZs with z | ⟨t, z⟩
    · exact ⟨0, Or.inl z⟩
    · exact ⟨t, Or.inr z⟩
  obtain ⟨f, hf⟩ : ∃ f : Nat → ClassId × (Nat → Nat), ∀ (k : Nat) (q : vw_C), cls[k]? = some q → u_Kn s q.1 q.2.1 q.2.2 (f k).1 (f k).2 := by
    refine ⟨fun k => [(c0, i0), (c1, i1), (c2, i2), (c3, i3), (c4, i4), (c5, i5), (c6, i6), (c7, i7), (c7, i7)].getD k (c0, i0), ?_⟩
    intro k q hq
    match k, hq with
    | 0, hq => cases hq; exact k0
    | 1, hq => cases hq; exact k1
    | 2, hq => cases hq; exact k2
    | 3, hq => cases hq; exact k3
    | 4, hq => cases hq; exact k4
    | 5, hq => cases hq; exact k5
    | 6, hq => cases hq; exact k6
    | 7, hq => cases hq; exact k7
    | 8, hq => cases hq; exact k8
    | k + 9, hq => simp [cls] at hq
  refine ⟨(fun k => (f k).1, fun k => (f k).2), (cI, cZ, cM), fun i => [tw, b, ts, tb, si].getD i 0, rfl, ⟨⟨hf, ?_⟩, ?_, hTw, ?_, ?_, ?_, ?_, ?_, ?_, hTb⟩, va_AO.of hao, hsi⟩
  · intro k q hq
    match k, hq with
    | 0, hq => cases hq; exact ⟨gI1, gI2⟩
    | 1, hq => cases hq; exact ⟨gZ1, gZ2⟩
    | 2, hq => cases hq; exact ⟨gM1, gM2⟩
    | k + 3, hq => simp at hq
  · exact va_Zref (hts (.laysStatic "SheepChess" "WORTHS" "[I") (by decide +kernel)) (hw _ (wTi 22 rfl rfl)) etw hA
  · exact fun w h => va_Nw.of (nest_on w h) (hts w (nest_in w h))
  · exact va_Zof (hts (.laysStatic "java/lang/String" "COMPACT_STRINGS" "Z") (by decide +kernel)) (hw _ (wTi 30 rfl rfl)) (va_eqt (hs _ (by decide +kernel))) hA
  · exact vk_R.of (hts (.stringRef "SheepChess" 69 firstT) (by decide +kernel)) ets
  · exact va_Oof hex ets hA
  · exact vk_OFof ets (va_eqt (hs _ (by decide +kernel))) hA
  · exact vk_OFof ets etb hA
theorem mq_lz {below : List Frame} {s t : State} {D : va_G} {g : CG} {ext : Nat → Nat} {b N : Nat} {σ' : Sg} (hN : N ≤ 155) (h : MQ below (QC D g s.heap.size ext (some (.int 1), N, R0, σ')) #[Value.ref b] s (N - 0) (szs N - szs 0) (fun q => s.heap.size ≤ q) t) : lw_Z below #[Value.ref b] s t := by
  obtain ⟨o, hrun, hend, ⟨⟨ho, -⟩, -⟩, Lc, ⟨hret, hW, hS⟩, hLc⟩ := h
  have hz : szs N - szs 0 ≤ 7302250 := Nat.le_trans (Nat.sub_le_sub_right (szs_le hN) _) (by decide +kernel)
  obtain ⟨s1, s2, s3, s4, s5, s6⟩ := hS
  refine ⟨o, hrun, hend, ho, hret, hW, s1, s2, Nat.le_trans s3 (by omega), s4, Nat.le_trans s5 hz, fun a c hc => ?_⟩
  obtain ⟨c', q1, q2, q3, q4⟩ := s6 a c hc
  refine ⟨c', q1, q2, q3, fun i _ => q4 i fun hm => ?_⟩
  have h1 : s.heap.size ≤ a := hLc _ hm
  have h2 : a < s.heap.size := (Array.getElem?_eq_some_iff.mp hc).1
  exact absurd h1 (Nat.not_le.mpr h2)
set_option maxHeartbeats 4000000 in
theorem whole_start {p : Program} {e : Env} {s : State} {m : MethodId} {below : List Frame} {meth : Method} {c : Code} (l : Launch) (hflags : l.flags = flags0) {b L : Nat} {xs : Nat → Int32} (hL : L ≤ 260) (C0 : lw_At p s m meth c b L xs) : W p l e room_1 s m #[Value.ref b] below meth c s.heap [] 0 0 (lw_Z below #[Value.ref b] s) (entryFrame m ([Value.ref b] : List Value).toArray 11) := by
  obtain ⟨D, g, ext, he1, hKS, hXO⟩ := st_KS C0
  obtain ⟨hx, hb, hr, hml, hown, hts, hX, hbl, hlocks, hgv⟩ := id C0
  obtain ⟨N', σ', hN1, hN2, hAW⟩ := kl_law (xs := xs) hL
  have hav : ([.retAddr 1] : List Value).map (cv (s.heap.size, ext)) = [Value.ref b] := by
    show [Value.ref (ext 1)] = _
    rw [he1]
  have hl := lv_entry (([.retAddr 1] : List Value).map (cv (s.heap.size, ext))) (n := 11) (by rw [hav]; exact Nat.le_of_ble_eq_true rfl)
  have hz := hAW ((p, l, e, s, m), (#[Value.ref b], below, meth, c), D, g, ext, s.heap.size, 0, room_1) hXO ⟨by rw [he1]; exact hX, by rw [he1]; exact hbl⟩ ⟨hx, hb, hr, hml, hown, fun w h => hts w (wT_sub h), hKS, hlocks, Nat.le_refl _, Nat.le_refl _, Nat.zero_le _, (by decide), (by decide), (Nat.le_trans (Nat.sub_le_sub_right hN2 _) (by decide)), (Nat.le_trans (Nat.sub_le_sub_right (szs_le hN2) _) (by decide +kernel))⟩ s.heap [] _ ⟨rfl, fun c h => absurd h (Nat.not_lt_zero c)⟩ va_S.rf hl
  rw [Nat.sub_self, Nat.sub_self, hav] at hz
  rw [lg_entry_eq]
  intro T hT X
  obtain ⟨t, a1, a2⟩ := hz T hT X
  exact ⟨t, a1, mq_lz hN2 a2⟩
