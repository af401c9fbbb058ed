/-! a text that is being written, read -/
def Agr (l : List Nat) (L : Nat → Nat) (t : Nat) : Prop := l.length ≤ t ∧ ∀ i, i < l.length → L i = l.getD i 0
/-- from place h on the text has these letters -/
def SLc (L : Nat → Nat) (t h : Nat) (it : List Nat) : Prop := ∀ i, i < it.length → chT L t (h + i) = it.getD i 0
theorem getD_l {l m : List Nat} {i : Nat} (h : i < l.length) : (l ++ m).getD i 0 = l.getD i 0 := by
  rw [List.getD_eq_getElem?_getD, List.getD_eq_getElem?_getD, List.getElem?_append_left h]
theorem getD_r {l m : List Nat} {i : Nat} : (l ++ m).getD (l.length + i) 0 = m.getD i 0 := by
  rw [List.getD_eq_getElem?_getD, List.getD_eq_getElem?_getD, List.getElem?_append_right (by omega), Nat.add_sub_cancel_left]
theorem Agr.left {l m : List Nat} {L : Nat → Nat} {t : Nat} (a : Agr (l ++ m) L t) : Agr l L t := by
  obtain ⟨a1, a2⟩ := a
  rw [List.length_append] at a1 a2
  exact ⟨by omega, fun i hi => by rw [a2 i (by omega), getD_l hi]⟩
theorem Agr.sl {l m : List Nat} {L : Nat → Nat} {t : Nat} (a : Agr (l ++ m) L t) : SLc L t l.length m := by
  obtain ⟨a1, a2⟩ := a
  rw [List.length_append] at a1 a2
  intro i hi
  unfold chT
  rw [if_pos (by omega), a2 _ (by omega), getD_r]
theorem SLc.l {L : Nat → Nat} {t h : Nat} {a b : List Nat} (s : SLc L t h (a ++ b)) : SLc L t h a := fun i hi => by
  rw [s i (by rw [List.length_append]; omega), getD_l hi]
theorem SLc.r {L : Nat → Nat} {t h : Nat} {a b : List Nat} (s : SLc L t h (a ++ b)) : SLc L t (h + a.length) b := fun i hi => by
  rw [Nat.add_assoc, s (a.length + i) (by rw [List.length_append]; omega), getD_r]
theorem SLc.at0 {L : Nat → Nat} {t h c : Nat} {b : List Nat} (s : SLc L t h (c :: b)) : chT L t h = c := s 0 (by rw [List.length_cons]; omega)
theorem SLc.tl {L : Nat → Nat} {t h c : Nat} {b : List Nat} (s : SLc L t h (c :: b)) : SLc L t (h + 1) b := fun i hi => by
  have := s (i + 1) (by rw [List.length_cons]; omega)
  rw [show h + 1 + i = h + (i + 1) by omega, this]
  rfl
/-- n items have been read: l; what is known then -/
def PR (n : Nat) (l : List Nat) (Q : RT → Prop) : Prop := ∀ L t, Agr l L t → ∃ r, (∀ k, allR L t (n + k) r0 0 = allR L t k r l.length) ∧ Q r
theorem PR0 {Q : RT → Prop} (h : Q r0) : PR 0 [] Q := fun L t _ => ⟨r0, fun k => by rw [Nat.zero_add]; rfl, h⟩
theorem PR.step {n : Nat} {l it : List Nat} {Q Q' : RT → Prop} (p : PR n l Q) (hit : 0 < it.length) (h : ∀ L t r, SLc L t l.length it → Q r → ∃ r', itT L t r l.length = some (r', l.length + it.length) ∧ Q' r') : PR (n + 1) (l ++ it) Q' := by
  intro L t ag
  obtain ⟨r, h1, h2⟩ := p L t ag.left
  obtain ⟨r', e, q⟩ := h L t r ag.sl h2
  refine ⟨r', fun k => ?_, q⟩
  have lt := ag.1
  rw [List.length_append] at lt
  rw [show n + 1 + k = n + (k + 1) by omega, h1 (k + 1), allR, if_neg (by omega), e, List.length_append]
theorem PR.imp {n : Nat} {l : List Nat} {Q Q' : RT → Prop} (p : PR n l Q) (h : ∀ r, Q r → Q' r) : PR n l Q' := fun L t ag => by
  obtain ⟨r, h1, h2⟩ := p L t ag
  exact ⟨r, h1, h r h2⟩
theorem PR.fin {n : Nat} {l : List Nat} {Q : RT → Prop} (p : PR n l Q) (hn : n ≤ 201) {L : Nat → Nat} (ag : Agr l L l.length) : (faR L l.length).1 = none ∧ Q (faR L l.length).2 := by
  obtain ⟨r, h1, h2⟩ := p L l.length ag
  have e : faR L l.length = (none, r) := by
    unfold faR
    rw [show 201 = n + (201 - n) by omega, h1 (201 - n)]
    cases 201 - n with
    | zero => rfl
    | succ k => rw [allR, if_pos (Nat.le_refl _)]
  rw [e]
  exact ⟨rfl, h2⟩
/-- a number, told -/
def numL (x : Nat) : List Nat := if x < 10 then [48 + x] else [48 + x / 10, 48 + x % 10]
theorem numL_len (x : Nat) : 1 ≤ (numL x).length ∧ (numL x).length ≤ 2 := by
  unfold numL
  split
  · exact ⟨Nat.le_refl _, by show 1 ≤ 2; decide⟩
  · exact ⟨by show 1 ≤ 2; decide, Nat.le_refl _⟩
theorem isF_no {c : Nat} (h : c < 48 ∨ 57 < c) : ¬ isF c = true := by
  rw [isF_iff]
  omega
theorem tok_num {L : Nat → Nat} {t h x c : Nat} (hx : x < 100) (hc : c < 48 ∨ 57 < c) (s : SLc L t h (numL x ++ [c])) : tokT L t c h = some (x, h + (numL x).length + 1) := by
  have s1 := s.l
  have s2 := s.r.at0
  unfold numL at s1 s2 ⊢
  by_cases e : x < 10
  · rw [if_pos e] at s1 s2 ⊢
    have c0 : chT L t h = 48 + x := s1.at0
    have c1 : chT L t (h + 1) = c := s2
    have n : numT L t h = (some x, h + 1) := by
      unfold numT
      rw [c0, c1, if_pos (isF_iff.mpr (by omega)), if_neg (isF_no hc), show 48 + x - 48 = x by omega]
    unfold tokT
    rw [n]
    show (if chT L t (h + 1) = c then some (x, h + 1 + 1) else none) = _
    rw [if_pos c1]
    rfl
  · rw [if_neg e] at s1 s2 ⊢
    have c0 : chT L t h = 48 + x / 10 := s1.at0
    have c1 : chT L t (h + 1) = 48 + x % 10 := s1.tl.at0
    have c2 : chT L t (h + 2) = c := s2
    have n : numT L t h = (some x, h + 2) := by
      unfold numT
      rw [c0, c1, if_pos (isF_iff.mpr (by omega)), if_pos (isF_iff.mpr (by omega)), show 10 * (48 + x / 10 - 48) + (48 + x % 10 - 48) = x by omega]
    unfold tokT
    rw [n]
    show (if chT L t (h + 2) = c then some (x, h + 2 + 1) else none) = _
    rw [if_pos c2]
    rfl
/-- what is known of what was read: q squares, w in a row, rr rows, nb beasts, the well, sn days of snow -/
def RQ (q w rr nb wl sn : Nat) (G K X : Nat → Nat) (r : RT) : Prop := rQ r = q ∧ (rr = 0 ∨ rW r = w) ∧ rR r = rr ∧ rB r = nb ∧ rWl r = wl ∧ rSn r = sn ∧ (∀ x, x < q → rG r x = G x) ∧ (∀ b, b < nb → rK r b = K b ∧ rX r b = X b)
theorem digT_l {L : Nat → Nat} {t : Nat} : ∀ (ds : List Nat) (k h : Nat), ds.length ≤ k → (∀ d ∈ ds, d ≤ 9) → SLc L t h (ds.map (48 + ·) ++ [59]) → digT L t k h = ds.length
  | [], 0, h, _, _, _ => rfl
  | [], k + 1, h, _, _, s => by
    have c0 : chT L t h = 59 := s.at0
    rw [digT, c0, if_neg (isF_no (by omega))]
    rfl
  | d :: ds, 0, h, hk, _, _ => by rw [List.length_cons] at hk; omega
  | d :: ds, k + 1, h, hk, hd, s => by
    have d9 := hd d List.mem_cons_self
    have c0 : chT L t h = 48 + d := s.at0
    rw [List.length_cons] at hk
    rw [digT, c0, if_pos (isF_iff.mpr (by omega)), digT_l ds k (h + 1) (by omega) (fun e he => hd e (List.mem_cons_of_mem _ he)) s.tl, List.length_cons, Nat.add_comm]
theorem it_row {L : Nat → Nat} {t h q w rr nb wl sn : Nat} {G K X : Nat → Nat} {r : RT} {ds : List Nat} (hq : RQ q w rr nb wl sn G K X r) (h6 : rr < 6) (hw : ds.length = w) (w1 : 1 ≤ w) (w6 : w ≤ 6) (hd : ∀ d ∈ ds, d ≤ 9) (s : SLc L t h (114 :: (ds.map (48 + ·) ++ [59]))) : ∃ r', itT L t r h = some (r', h + (114 :: (ds.map (48 + ·) ++ [59])).length) ∧ RQ (q + w) w (rr + 1) nb wl sn (fun x => if x < q then G x else ds.getD (x - q) 0) K X r' := by
  obtain ⟨q1, q2, q3, q4, q5, q6, q7, q8⟩ := hq
  have dg := digT_l ds 6 (h + 1) (by omega) hd s.tl
  have c0 : chT L t h = 114 := s.at0
  have s2 := s.tl
  have ln : (ds.map (48 + ·)).length = w := by rw [List.length_map, hw]
  have cw : chT L t (h + 1 + w) = 59 := by
    have := s2.r.at0
    rw [ln] at this
    exact this
  rw [hw] at dg
  have e : itT L t r h = rowT L t r (h + 1) := by
    unfold itT
    rw [c0, if_neg (by decide), if_neg (by decide), if_pos rfl]
  rw [e]
  unfold rowT
  rw [dg, q3, if_pos ⟨h6, w1, q2.imp id (fun z => z.symm), cw⟩]
  refine ⟨_, congrArg some (Prod.ext rfl ?_), ?_, Or.inr rfl, rfl, q4, q5, q6, fun x hx => ?_, q8⟩
  · show h + 1 + w + 1 = h + _
    rw [List.length_cons, List.length_append, ln, List.length_singleton]
    omega
  · show rQ r + w = q + w
    rw [q1]
  · show (if x < rQ r then rG r x else chT L t (h + 1 + (x - rQ r)) - 48) = if x < q then G x else ds.getD (x - q) 0
    rw [q1]
    by_cases c : x < q
    · rw [if_pos c, if_pos c, q7 x c]
    · rw [if_neg c, if_neg c]
      have s3 := s2.l (x - q) (by rw [ln]; omega)
      rw [s3, List.getD_eq_getElem?_getD, List.getD_eq_getElem?_getD, List.getElem?_map]
      have lt : x - q < ds.length := by omega
      rw [List.getElem?_eq_getElem lt]
      show 48 + ds[x - q] - 48 = ds[x - q]
      omega
theorem dry_ok {q w rr nb wl sn : Nat} {G K X : Nat → Nat} {r : RT} {x : Nat} (hq : RQ q w rr nb wl sn G K X r) (hx : x < q) (g9 : G x ≠ 9) : dryT r x = true := by
  obtain ⟨q1, q2, q3, q4, q5, q6, q7, q8⟩ := hq
  unfold dryT
  rw [q1, q7 x hx, decide_eq_true hx, decide_eq_true g9]
  rfl
theorem it_bea {L : Nat → Nat} {t h q w rr nb wl sn : Nat} {G K X : Nat → Nat} {r : RT} {k v x : Nat} (hq : RQ q w rr nb wl sn G K X r) (hk : k ≤ 3) (hv : v ≤ 1) (h8 : nb < 8) (hx : x < q) (h36 : q ≤ 36) (g9 : G x ≠ 9) (hn : ∀ b, b < nb → X b ≠ x) (s : SLc L t h (98 :: (numL k ++ [44] ++ (numL v ++ [44] ++ (numL x ++ [59]))))) : ∃ r', itT L t r h = some (r', h + (98 :: (numL k ++ [44] ++ (numL v ++ [44] ++ (numL x ++ [59])))).length) ∧ RQ q w rr (nb + 1) wl sn G (fun a => if a = nb then k else K a) (fun a => if a = nb then x else X a) r' := by
  have dr := dry_ok hq hx g9
  obtain ⟨q1, q2, q3, q4, q5, q6, q7, q8⟩ := hq
  have c0 : chT L t h = 98 := s.at0
  have s1 := s.tl
  have t1 := tok_num (x := k) (c := 44) (by omega) (by omega) s1.l
  have s2 := s1.r
  have t2 := tok_num (x := v) (c := 44) (by omega) (by omega) s2.l
  have s3 := s2.r
  have t3 := tok_num (x := x) (c := 59) (by omega) (by omega) s3
  have l1 : (numL k ++ [44]).length = (numL k).length + 1 := by rw [List.length_append, List.length_singleton]
  have l2 : (numL v ++ [44]).length = (numL v).length + 1 := by rw [List.length_append, List.length_singleton]
  have l3 : (numL x ++ [59]).length = (numL x).length + 1 := by rw [List.length_append, List.length_singleton]
  have e : itT L t r h = beaT L t r (h + 1) := by
    unfold itT
    rw [c0, if_pos rfl]
  have me : memK (rX r) x (rB r) = false := by
    cases z : memK (rX r) x (rB r) with
    | false => rfl
    | true =>
      obtain ⟨i, i1, i2⟩ := (memK_iff _).mp z
      rw [q4] at i1
      exact absurd ((q8 i i1).2.symm.trans i2) (hn i i1)
  rw [l1] at s2 t2 s3 t3
  rw [l2] at s3 t3
  rw [e]
  unfold beaT
  rw [t1]
  dsimp only
  rw [show h + 1 + (numL k).length + 1 = h + 1 + ((numL k).length + 1) by omega, t2]
  dsimp only
  rw [show h + 1 + ((numL k).length + 1) + (numL v).length + 1 = h + 1 + ((numL k).length + 1) + ((numL v).length + 1) by omega, t3]
  dsimp only
  rw [if_pos ⟨hk, hv, by rw [q4]; exact h8, dr, me⟩]
  refine ⟨_, congrArg some (Prod.ext rfl ?_), q1, q2, q3, ?_, q5, q6, q7, fun b hb => ?_⟩
  · show h + 1 + ((numL k).length + 1) + ((numL v).length + 1) + (numL x).length + 1 = h + _
    simp only [List.length_cons, List.length_append, List.length_nil]
    omega
  · show rB r + 1 = nb + 1
    rw [q4]
  · show (if b = rB r then k else rK r b) = (if b = nb then k else K b) ∧ (if b = rB r then x else rX r b) = (if b = nb then x else X b)
    rw [q4]
    by_cases eb : b = nb
    · rw [if_pos eb, if_pos eb, if_pos eb, if_pos eb]
      exact ⟨rfl, rfl⟩
    · rw [if_neg eb, if_neg eb, if_neg eb, if_neg eb]
      exact q8 b (by omega)
theorem it_wel {L : Nat → Nat} {t h q w rr nb wl sn : Nat} {G K X : Nat → Nat} {r : RT} {x : Nat} (hq : RQ q w rr nb wl sn G K X r) (hx : x < q) (h36 : q ≤ 36) (g9 : G x ≠ 9) (s : SLc L t h (119 :: (numL x ++ [59]))) : ∃ r', itT L t r h = some (r', h + (119 :: (numL x ++ [59])).length) ∧ RQ q w rr nb x sn G K X r' := by
  have dr := dry_ok hq hx g9
  obtain ⟨q1, q2, q3, q4, q5, q6, q7, q8⟩ := hq
  have c0 : chT L t h = 119 := s.at0
  have t3 := tok_num (x := x) (c := 59) (by omega) (by omega) s.tl
  have e : itT L t r h = welT L t r (h + 1) := by
    unfold itT
    rw [c0, if_neg (by decide), if_neg (by decide), if_neg (by decide), if_neg (by decide), if_pos rfl]
  rw [e]
  unfold welT
  rw [t3]
  dsimp only
  rw [if_pos dr]
  refine ⟨_, congrArg some (Prod.ext rfl ?_), q1, q2, q3, q4, rfl, q6, q7, q8⟩
  show h + 1 + (numL x).length + 1 = h + _
  rw [List.length_cons, List.length_append, List.length_singleton]
  omega
theorem it_hun {L : Nat → Nat} {t h q w rr nb wl sn : Nat} {G K X : Nat → Nat} {r : RT} {x : Nat} (hq : RQ q w rr nb wl sn G K X r) (h1 : 1 ≤ x) (h9 : x ≤ 9) (s : SLc L t h (104 :: (numL x ++ [59]))) : ∃ r', itT L t r h = some (r', h + (104 :: (numL x ++ [59])).length) ∧ RQ q w rr nb wl sn G K X r' := by
  obtain ⟨q1, q2, q3, q4, q5, q6, q7, q8⟩ := hq
  have c0 : chT L t h = 104 := s.at0
  have t3 := tok_num (x := x) (c := 59) (by omega) (by omega) s.tl
  have e : itT L t r h = hunT L t r (h + 1) := by
    unfold itT
    rw [c0, if_neg (by decide), if_pos rfl]
  rw [e]
  unfold hunT
  rw [t3]
  dsimp only
  rw [if_pos ⟨h1, h9⟩]
  refine ⟨_, congrArg some (Prod.ext rfl ?_), q1, q2, q3, q4, q5, q6, q7, q8⟩
  show h + 1 + (numL x).length + 1 = h + _
  rw [List.length_cons, List.length_append, List.length_singleton]
  omega
theorem it_sno {L : Nat → Nat} {t h q w rr nb wl sn : Nat} {G K X : Nat → Nat} {r : RT} {x : Nat} (hq : RQ q w rr nb wl sn G K X r) (h1 : x ≤ 1) (h9 : sn < 9) (s : SLc L t h (115 :: (numL x ++ [59]))) : ∃ r', itT L t r h = some (r', h + (115 :: (numL x ++ [59])).length) ∧ RQ q w rr nb wl (sn + 1) G K X r' := by
  obtain ⟨q1, q2, q3, q4, q5, q6, q7, q8⟩ := hq
  have c0 : chT L t h = 115 := s.at0
  have t3 := tok_num (x := x) (c := 59) (by omega) (by omega) s.tl
  have e : itT L t r h = snoT L t r (h + 1) := by
    unfold itT
    rw [c0, if_neg (by decide), if_neg (by decide), if_neg (by decide), if_pos rfl]
  rw [e]
  unfold snoT
  rw [t3]
  dsimp only
  rw [if_pos ⟨h1, by rw [q6]; exact h9⟩]
  refine ⟨_, congrArg some (Prod.ext rfl ?_), q1, q2, q3, q4, q5, ?_, q7, q8⟩
  · show h + 1 + (numL x).length + 1 = h + _
    rw [List.length_cons, List.length_append, List.length_singleton]
    omega
  · show rSn r + 1 = sn + 1
    rw [q6]
/-! letters written -/
def TXT (σ : Sg) (l : List Nat) : Prop := σ 4 3 = nI l.length ∧ (∀ i, i < l.length → σ 5 i = nI (l.getD i 0)) ∧ ∀ c ∈ l, c < 1000
def Fw (σ σ' : Sg) : Prop := ∀ a, a ≠ 4 → a ≠ 5 → σ' a = σ a
theorem Fw.rf {σ : Sg} : Fw σ σ := fun _ _ _ => rfl
theorem Fw.tr {σ σ' σ'' : Sg} (h : Fw σ σ') (h' : Fw σ' σ'') : Fw σ σ'' := fun a h1 h2 => (h' a h1 h2).trans (h a h1 h2)
theorem TXT.fr {σ σ' : Sg} {l : List Nat} (h : TXT σ l) (h4 : σ' 4 = σ 4) (h5 : σ' 5 = σ 5) : TXT σ' l := ⟨by rw [h4]; exact h.1, fun i hi => by rw [h5]; exact h.2.1 i hi, h.2.2⟩
theorem TXT.tc {σ : Sg} {l : List Nat} (h : TXT σ l) (h2 : l.length ≤ 200) : TC σ (fun i => l.getD i 0) l.length := ⟨h.1, h2, fun i hi => ⟨h.2.1 i hi, by
  show l.getD i 0 < 1000
  rw [List.getD_eq_getElem?_getD, List.getElem?_eq_getElem hi]
  exact h.2.2 _ (List.getElem_mem hi)⟩⟩
theorem w_let {σ : Sg} {l : List Nat} {c : Nat} (h : TXT σ l) (hl : l.length < 200) (h1 : 32 ≤ c) (h2 : c ≤ 126) : ∃ σ', J_X7_write (nI c) σ = some (nI (l.length + 1), σ') ∧ TXT σ' (l ++ [c]) ∧ Fw σ σ' := by
  obtain ⟨t1, t2, t3⟩ := h
  refine ⟨up (up σ 5 l.length (nI c)) 4 3 (nI (l.length + 1)), ?_, ⟨?_, fun i hi => ?_, fun d hd => ?_⟩, fun a z1 z2 => by rw [up_ne z1, up_ne z2]⟩
  · unfold J_X7_write J_X5_add
    rw [if_neg (show ¬ nI c < (32 : Int32) from by rw [show (32 : Int32) = nI 32 from rfl, nI_ltI (by omega) (by omega)]; omega), if_pos (show nI c ≤ (126 : Int32) from by rw [show (126 : Int32) = nI 126 from rfl, nI_leI (by omega) (by omega)]; exact h2), t1, if_neg (nI_nlt0 (by omega)), if_pos (show nI l.length < (200 : Int32) from by rw [li_200, nI_ltI (by omega) (by omega)]; exact hl), if_pos ((inb_nI (by omega)).mpr hl), bd2_s, if_neg (by decide), nI_clamp (by omega), up_n (show (4 : Nat) ≠ 5 by decide), t1, show nI l.length + (1 : Int32) = nI (l.length + 1) from by rw [li_1, nI_add], up_s]
  · rw [up_s, List.length_append, List.length_singleton]
  · rw [List.length_append, List.length_singleton] at hi
    rw [up_n (by decide)]
    by_cases e : i = l.length
    · rw [e, up_s]
      have := getD_r (l := l) (m := [c]) (i := 0)
      rw [Nat.add_zero] at this
      rw [this]
      rfl
    · rw [up_i e, t2 i (by omega), getD_l (by omega)]
  · rcases List.mem_append.mp hd with z | z
    · exact t3 d z
    · rw [List.mem_singleton.mp z]; omega
theorem w_pos {σ σ' : Sg} {n : Nat} {α : Type} {f g : Option α} (hn : n < 1000) : (if nI (n + 1) ≤ 0 then f else g) = g := if_neg (nI_nle (by omega) (by omega))
theorem w_num {σ : Sg} {l : List Nat} {x c : Nat} (h : TXT σ l) (hl : l.length + 3 ≤ 200) (hx : x < 100) (h1 : 32 ≤ c) (h2 : c ≤ 126) : ∃ σ', J_L_number (nI x) (nI c) σ = some (1, σ') ∧ TXT σ' (l ++ (numL x ++ [c])) ∧ Fw σ σ' := by
  have e10 : (10 : Int32) = nI 10 := rfl
  have e48 : (48 : Int32) = nI 48 := rfl
  have tail : ∀ (σ : Sg) (l : List Nat), TXT σ l → l.length + 2 ≤ 200 → ∃ σ', J_L_number_b20 (nI x) (nI c) σ = some (1, σ') ∧ TXT σ' (l ++ [48 + x % 10] ++ [c]) ∧ Fw σ σ' := by
    intro σ l h hl
    obtain ⟨σ1, r1, r2, r3⟩ := w_let (c := 48 + x % 10) h (by omega) (by omega) (by omega)
    have ll : (l ++ [48 + x % 10]).length = l.length + 1 := by rw [List.length_append, List.length_singleton]
    obtain ⟨σ2, t1, t2, t3⟩ := w_let r2 (by rw [ll]; omega) h1 h2
    refine ⟨σ2, ?_, t2, r3.tr t3⟩
    unfold J_L_number_b20
    rw [e10, rmI_nI (by omega) (by omega), e48, nI_add, r1, bd2_s, if_neg (nI_nle (by omega) (by omega)), t1, bd2_s, if_neg (nI_nle (by omega) (by rw [ll]; omega))]
  unfold J_L_number numL
  by_cases e : x < 10
  · obtain ⟨σ1, r1, r2, r3⟩ := tail σ l h (by omega)
    refine ⟨σ1, ?_, ?_, r3⟩
    · rw [if_pos (show nI x < (10 : Int32) from by rw [e10, nI_ltI (by omega) (by omega)]; exact e)]
      exact r1
    · rw [if_pos e, ← List.append_assoc]
      rw [show x % 10 = x by omega] at r2
      exact r2
  · obtain ⟨σ1, r1, r2, r3⟩ := w_let (c := 48 + x / 10) h (by omega) (by omega) (by omega)
    have ll : (l ++ [48 + x / 10]).length = l.length + 1 := by rw [List.length_append, List.length_singleton]
    obtain ⟨σ2, t1, t2, t3⟩ := tail σ1 _ r2 (by rw [ll]; omega)
    refine ⟨σ2, ?_, ?_, r3.tr t3⟩
    · rw [if_neg (show ¬ nI x < (10 : Int32) from by rw [e10, nI_ltI (by omega) (by omega)]; omega), e10, nI_div (by omega) (by omega), e48, nI_add, r1, bd2_s, if_neg (nI_nle (by omega) (by omega))]
      exact t1
    · rw [if_neg e]
      have e2 : l ++ ([48 + x / 10, 48 + x % 10] ++ [c]) = l ++ [48 + x / 10] ++ [48 + x % 10] ++ [c] := by simp
      rw [e2]
      exact t2
theorem w_one {σ : Sg} {l : List Nat} {x c : Nat} (h : TXT σ l) (hl : l.length + 4 ≤ 200) (hx : x < 100) (h1 : 32 ≤ c) (h2 : c ≤ 126) : ∃ σ', J_L_one (nI c) (nI x) σ = some (1, σ') ∧ TXT σ' (l ++ (c :: (numL x ++ [59]))) ∧ Fw σ σ' := by
  obtain ⟨σ1, r1, r2, r3⟩ := w_let h (by omega) h1 h2
  have ll : (l ++ [c]).length = l.length + 1 := by rw [List.length_append, List.length_singleton]
  obtain ⟨σ2, t1, t2, t3⟩ := w_num (x := x) (c := 59) r2 (by rw [ll]; omega) hx (by decide) (by decide)
  refine ⟨σ2, ?_, ?_, r3.tr t3⟩
  · unfold J_L_one
    rw [r1, bd2_s, if_neg (nI_nle (by omega) (by omega)), show J_L_number (nI x) 59 σ1 = _ from t1, bd2_s, if_neg (by decide)]
  · have e2 : l ++ (c :: (numL x ++ [59])) = l ++ [c] ++ (numL x ++ [59]) := by simp
    rw [e2]
    exact t2
