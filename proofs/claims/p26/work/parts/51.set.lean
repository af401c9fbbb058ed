/-! states with one thing set; what a store does to the relations -/
def daS (s : ST) (d : Nat) : ST := (d, sG s, sP s, sH s, sE s)
def grS (s : ST) (x v : Nat) : ST := (sD s, fun a => if a = x then v else sG s a, sP s, sH s, sE s)
def plS (s : ST) (b v : Nat) : ST := (sD s, sG s, fun a => if a = b then v else sP s a, sH s, sE s)
def huS (s : ST) (b v : Nat) : ST := (sD s, sG s, sP s, fun a => if a = b then v else sH s a, sE s)
def ewS (s : ST) (e : Nat) : ST := (sD s, sG s, sP s, sH s, e)
section SET
variable {σ : Sg} {c : Nat} {Λ : LT} {s : ST}
theorem LC.up {l a k : Nat} {v : Int32} (hl : l + 2 < a) (h : LC σ l Λ) : LC (up σ a k v) l Λ := by
  obtain ⟨l0, l1, l2, l3, l4, l5, l6, l7⟩ := h
  refine ⟨?_, ?_, ?_, ?_, ?_, ?_, ?_, ?_⟩
  · rw [up_n (by omega)]; exact l0
  · rw [up_n (by omega)]; exact l1
  · rw [up_n (by omega)]; exact l2
  · rw [up_n (by omega)]; exact l3
  · rw [up_n (by omega)]; exact l4
  · rw [up_n (by omega)]; exact l5
  · intro b hb; rw [up_n (by omega)]; exact l6 b hb
  · intro b hb; rw [up_n (by omega)]; exact l7 b hb
theorem LC.fr {l : Nat} {σ' : Sg} (h : LC σ l Λ) (e0 : σ' l = σ l) (e1 : σ' (l + 1) = σ (l + 1)) (e2 : σ' (l + 2) = σ (l + 2)) : LC σ' l Λ := by
  unfold LC
  rw [e0, e1, e2]
  exact h
theorem MC.fr {σ' : Sg} (h : MC σ c Λ s) (e0 : σ' c = σ c) (e1 : σ' (c + 1) = σ (c + 1)) (e2 : σ' (c + 2) = σ (c + 2)) (e3 : σ' (c + 3) = σ (c + 3)) (e4 : σ' (c + 4) = σ (c + 4)) : MC σ' c Λ s := by
  unfold MC
  rw [e0, e1, e2, e3, e4]
  exact h
theorem up_na {σ : Sg} {c k a : Nat} {v : Int32} (h : a ≠ c) : up σ c k v a = σ a := by
  funext j
  exact up_n h
theorem MC.upD {d : Nat} (h : MC σ c Λ s) : MC (up σ c 5 (nI d)) c Λ (daS s d) := by
  obtain ⟨m0, m1, m2, m3, m4⟩ := h
  refine ⟨?_, ?_, ?_, ?_, ?_⟩
  · rw [up_s]; rfl
  · intro x hx; rw [up_n (by omega)]; exact m1 x hx
  · intro b hb; rw [up_n (by omega)]; exact m2 b hb
  · intro b hb; rw [up_n (by omega)]; exact m3 b hb
  · intro b hb; rw [up_n (by omega)]; exact m4 b hb
theorem MC.upG {x v : Nat} (m9 : lM Λ x ≠ 9) (h : MC σ c Λ s) : MC (up σ (c + 1) x (nI v)) c Λ (grS s x v) := by
  obtain ⟨m0, m1, m2, m3, m4⟩ := h
  refine ⟨?_, ?_, ?_, ?_, ?_⟩
  · rw [up_n (by omega)]; exact m0
  · intro y hy
    show _ = nI (if lM Λ y = 9 then 9 else (if y = x then v else sG s y))
    by_cases e : y = x
    · rw [e, up_s, if_neg m9, if_pos rfl]
    · rw [up_i e, if_neg e]; exact m1 y hy
  · intro b hb; rw [up_n (by omega)]; exact m2 b hb
  · intro b hb; rw [up_n (by omega)]; exact m3 b hb
  · intro b hb; rw [up_n (by omega)]; exact m4 b hb
theorem MC.upP {b v : Nat} (h : MC σ c Λ s) : MC (up σ (c + 2) b (plI v)) c Λ (plS s b v) := by
  obtain ⟨m0, m1, m2, m3, m4⟩ := h
  refine ⟨?_, ?_, ?_, ?_, ?_⟩
  · rw [up_n (by omega)]; exact m0
  · intro b hb; rw [up_n (by omega)]; exact m1 b hb
  · intro y hy
    show _ = plI (if y = b then v else sP s y)
    by_cases e : y = b
    · rw [e, up_s, if_pos rfl]
    · rw [up_i e, if_neg e]; exact m2 y hy
  · intro b hb; rw [up_n (by omega)]; exact m3 b hb
  · intro b hb; rw [up_n (by omega)]; exact m4 b hb
theorem MC.upH {b v : Nat} (h : MC σ c Λ s) : MC (up σ (c + 4) b (nI v)) c Λ (huS s b v) := by
  obtain ⟨m0, m1, m2, m3, m4⟩ := h
  refine ⟨?_, ?_, ?_, ?_, ?_⟩
  · rw [up_n (by omega)]; exact m0
  · intro b hb; rw [up_n (by omega)]; exact m1 b hb
  · intro b hb; rw [up_n (by omega)]; exact m2 b hb
  · intro b hb; rw [up_n (by omega)]; exact m3 b hb
  · intro y hy
    show _ = nI (if y = b then v else sH s y)
    by_cases e : y = b
    · rw [e, up_s, if_pos rfl]
    · rw [up_i e, if_neg e]; exact m4 y hy
theorem MC.upK {b k e : Nat} (hk : ∀ a, a < lNb Λ → kdN Λ (ewS s e) a = if a = b then k else kdN Λ s a) (h : MC σ c Λ s) : MC (up σ (c + 3) b (nI k)) c Λ (ewS s e) := by
  obtain ⟨m0, m1, m2, m3, m4⟩ := h
  refine ⟨?_, ?_, ?_, ?_, ?_⟩
  · rw [up_n (by omega)]; exact m0
  · intro b hb; rw [up_n (by omega)]; exact m1 b hb
  · intro b hb; rw [up_n (by omega)]; exact m2 b hb
  · intro y hy
    rw [hk y hy]
    by_cases e : y = b
    · rw [e, up_s, if_pos rfl]
    · rw [up_i e, if_neg e]; exact m3 y hy
  · intro b hb; rw [up_n (by omega)]; exact m4 b hb
end SET
