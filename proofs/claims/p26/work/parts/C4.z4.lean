/-! the references at two times are those at the end; a change of references that no cell reads -/
theorem rt_ok : ∀ x ∈ asl, R0 x.1 x.2.1 = some x.2.2 := by decide +kernel
theorem rt_step (τ : Nat) : (∃ c k d, asl[τ]? = some (c, k, d) ∧ Rt (τ + 1) = upr (Rt τ) c k (some d)) ∨ (asl[τ]? = none ∧ Rt (τ + 1) = Rt τ) := by
  cases e : asl[τ]? with
  | none => right; exact ⟨rfl, by show (match asl[τ]? with | some (c, k, d) => upr (Rt τ) c k (some d) | none => Rt τ) = _; rw [e]⟩
  | some p => obtain ⟨c, k, d⟩ := p; left; exact ⟨c, k, d, rfl, (rt_s e).symm⟩
theorem rt_sub : ∀ (τ a j d : Nat), Rt τ a j = some d → R0 a j = some d
  | 0, _, _, _, h => by cases h
  | τ + 1, a, j, d, h => by
    rcases rt_step τ with ⟨c, k, d', e, q⟩ | ⟨_, q⟩
    · rw [q] at h
      unfold upr at h
      split at h
      · rename_i z
        cases h
        rw [z.1, z.2]
        exact rt_ok _ (List.mem_of_getElem? e)
      · exact rt_sub τ a j d h
    · rw [q] at h; exact rt_sub τ a j d h
theorem rt_mem : ∀ (τ a j d : Nat), (a, j, d) ∈ asl.take τ → ∃ d', Rt τ a j = some d'
  | 0, _, _, _, h => by simp at h
  | τ + 1, a, j, d, h => by
    rw [List.take_succ, List.mem_append] at h
    rcases rt_step τ with ⟨c, k, d', e, q⟩ | ⟨e, q⟩
    · rw [q]
      unfold upr
      split
      · exact ⟨_, rfl⟩
      · rename_i z
        rcases h with h | h
        · exact rt_mem τ a j d h
        · rw [e] at h
          simp at h
          exact absurd ⟨h.1, h.2.1⟩ z
    · rw [q]
      rcases h with h | h
      · exact rt_mem τ a j d h
      · rw [e] at h; simp at h
def rchk (τ a : Nat) : Bool := (List.range 41).all fun j => match R0 a j with
  | none => true
  | some d => (asl.take τ).contains (a, j, d)
theorem rt_eq {τ a : Nat} (hc : rchk τ a = true) (hl : (rtl.getD a []).length ≤ 41) (j : Nat) : Rt τ a j = R0 a j := by
  cases e : Rt τ a j with
  | some d => exact (rt_sub τ a j d e).symm
  | none =>
    cases f : R0 a j with
    | none => rfl
    | some d =>
      exfalso
      by_cases hj : j < 41
      · have h1 := List.all_eq_true.mp hc j (List.mem_range.mpr hj)
        rw [f] at h1
        have h2 : (a, j, d) ∈ asl.take τ := by simpa using h1
        obtain ⟨d', h3⟩ := rt_mem τ a j d h2
        rw [e] at h3
        cases h3
      · have : R0 a j = none := by
          unfold R0
          rw [List.getD_eq_getElem?_getD (l := rtl.getD a []), List.getElem?_eq_none (by omega)]
          rfl
        rw [this] at f
        cases f
theorem rl_all : ∀ a, a < 143 → (rtl.getD a []).length ≤ 41 := by decide +kernel
theorem rc_168 : ∀ a, a < 143 → rchk 168 a = true := by decide +kernel
theorem rt168 (a j : Nat) (h : a < 143) : Rt 168 a j = R0 a j := rt_eq (rc_168 a h) (rl_all a h) j
theorem WD.cg {D : va_G} {g : CG} {base n : Nat} {R R' : Rg} {σ : Sg} {H : Heap} (h : ∀ a j, a < n → R a j = R' a j) (hW : WD D g base n R σ H) : WD D g base n R' σ H := by
  refine ⟨hW.1, fun c hc => ?_⟩
  have e : R c = R' c := funext fun j => h c j hc
  have f : fv base R σ c = fv base R' σ c := by funext j; unfold fv; rw [e]
  have z := hW.2 c hc
  have q : cE g base R σ c = cE g base R' σ c := by unfold cE; simp only [f, e]
  rw [q] at z
  exact z
theorem aw_R {K : KT} {M : MT} {T : TT} {pc : Nat} {L : List (Option Value)} {st : List Value} {n : Nat} {R R' : Rg} {σ : Sg} (hR : ∀ a j, a < n → R a j = R' a j) (h : AW K M T pc L st n R' σ) : AW K M T pc L st n R σ := by
  obtain ⟨⟨p, l, e, s, m⟩, ⟨args, below, meth, c⟩, D, g, ext, base, n0, rm⟩ := K
  intro ok H locs ls hW hS hl
  exact h ok H locs ls (hW.cg hR) hS hl
