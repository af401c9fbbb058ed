/-! the first text, read: what the class is at the start -/
def firstL (i : Nat) : Nat := (firstB.getD i 0).toNatClampNeg
def G1 (x : Nat) : Nat := [0, 1, 2, 0, 3, 3, 0, 0, 9, 2, 0, 0, 4, 1, 0, 2, 9, 0, 0, 0, 0, 0, 1, 3, 0].getD x 0
def K1 (b : Nat) : Nat := [0, 1, 2, 3, 0, 1, 2, 3].getD b 0
def V1 (b : Nat) : Nat := [0, 0, 0, 0, 1, 1, 1, 1].getD b 0
def X1 (b : Nat) : Nat := [22, 20, 21, 24, 2, 4, 1, 0].getD b 0
def Y1 (k : Nat) : Nat := [0, 0, 0, 1].getD k 0
def rr (q w b be sn wl : Nat) : RT := ((q, w, 5, b, be, sn, wl), G1, K1, V1, X1, Y1)
def r1 : RT := rr 25 5 8 3 4 7
theorem fa_1 : (faR firstL 113).1 = none := by decide +kernel
theorem fa_2 : rQ (faR firstL 113).2 = 25 ∧ rW (faR firstL 113).2 = 5 ∧ rR (faR firstL 113).2 = 5 ∧ rB (faR firstL 113).2 = 8 ∧ rBe (faR firstL 113).2 = 3 ∧ rSn (faR firstL 113).2 = 4 ∧ rWl (faR firstL 113).2 = 7 := by decide +kernel
theorem fa_3 : ∀ x, x < 25 → rG (faR firstL 113).2 x = G1 x := by decide +kernel
theorem fa_4 : ∀ b, b < 8 → rK (faR firstL 113).2 b = K1 b ∧ rV (faR firstL 113).2 b = V1 b ∧ rX (faR firstL 113).2 b = X1 b := by decide +kernel
theorem fa_5 : ∀ k, k < 4 → rS (faR firstL 113).2 k = Y1 k := by decide +kernel
theorem r1_ok : ROK r1 := by
  refine ⟨by decide, Or.inr (by decide), (by decide +kernel : ∀ x, x < 25 → G1 x ≤ 9), by decide, (by decide +kernel : ∀ b, b < 8 → K1 b ≤ 3 ∧ V1 b ≤ 1 ∧ X1 b < 25 ∧ G1 (X1 b) ≠ 9), fun a b ha hb => (by decide +kernel : ∀ a, a < 8 → ∀ b, b < 8 → X1 a = X1 b → a = b) a ha b hb, Or.inr (by decide), by decide, by decide, (by decide +kernel : ∀ k, k < 4 → Y1 k ≤ 1)⟩
theorem fL_c : ∀ i, i < 113 → firstB.getD i 0 = nI (firstL i) ∧ firstL i < 1000 := by decide +kernel
theorem Sl_z {a : Nat} (h4 : a ≠ 4) (h5 : a ≠ 5) : ∀ n, Sl n a = S5 a
  | 0 => rfl
  | n + 1 => by
    show up (up (Sl n) 5 n _) 4 3 _ a = S5 a
    rw [up_na h4, up_na h5, Sl_z h4 h5 n]
theorem Sl_5 : ∀ n i, i < n → Sl n 5 i = firstB.getD i 0
  | 0, i, h => absurd h (Nat.not_lt_zero i)
  | n + 1, i, h => by
    show up (up (Sl n) 5 n _) 4 3 _ 5 i = _
    rw [up_n (show (5 : Nat) ≠ 4 by decide)]
    unfold up
    by_cases e : i = n
    · rw [if_pos ⟨rfl, e⟩, e]
    · rw [if_neg (fun z => e z.2)]
      exact Sl_5 n i (by omega)
theorem Sl_tc : TC (Sl 113) firstL 113 := by
  refine ⟨Sl_43 113, by decide, fun i hi => ?_⟩
  rw [Sl_5 113 i hi]
  exact fL_c i hi
theorem S5_hi {a : Nat} (h : 93 ≤ a) (k : Nat) : Sl 113 a k = 0 := by
  rw [Sl_z (by omega) (by omega)]
  exact S5_z a (by omega) (by omega) (by omega) k
section BEG
variable {σ σ' : Sg} {r : RT}
theorem RC.r1 (h : RC σ (faR firstL 113).2) : RC σ r1 := by
  obtain ⟨c0, c1, c2, c3, c4, c5, c6, c7, c8, c9, c10⟩ := h
  obtain ⟨e0, e1, e2, e3, e4, e5, e6⟩ := fa_2
  rw [e0] at c0 c7
  rw [e1] at c1
  rw [e2] at c2
  rw [e3] at c3 c8
  rw [e6] at c4
  rw [e4] at c5
  rw [e5] at c6 c9
  refine ⟨c0, c1, c2, c3, c4, c5, c6, fun x hx => ?_, fun b hb => ?_, fun k hk => ?_, c10⟩
  · rw [c7 x hx, fa_3 x hx]; rfl
  · obtain ⟨q1, q2, q3, q4⟩ := c8 b hb
    obtain ⟨p1, p2, p3⟩ := fa_4 b hb
    exact ⟨by rw [q1, p2]; rfl, by rw [q2, p3]; rfl, by rw [q3, p1]; rfl, q4⟩
  · rw [c9 k hk, fa_5 k hk]; rfl
theorem jb_begin : ∃ σ4, J_X7_begin (Sl 113) = some (1, σ4) ∧ MC σ4 14 (laΛ r1) (laS r1) ∧ LC σ4 1 (laΛ r1) ∧ σ4 24 3 = nI 0 ∧ σ4 0 8 = nI 0 ∧ σ4 24 4 = nI 0 ∧ ∀ a, 141 ≤ a → ∀ k, σ4 a k = 0 := by
  obtain ⟨σ1, a1, a2, a3⟩ := jc_firstFault Sl_tc
  obtain ⟨rc0, -⟩ := a2 fa_1
  have rc := rc0.r1
  have ok := r1_ok
  unfold J_X7_begin
  rw [a1, bd2_s, fa_1, if_pos (show onI4 none = -4 from rfl), rc.2.2.2.1]
  obtain ⟨τ, e1, e2, e3, e4, e5⟩ := @jc_landCopy σ1
  obtain ⟨m9, l6⟩ := rc.m9 ok
  have mτ : MC τ 9 (laΛ r1) (laS r1) := MC.fr m9 (e5 _ (by decide)) (e5 _ (by decide)) (e5 _ (by decide)) (e5 _ (by decide)) (e5 _ (by decide))
  have lτ : LC τ 1 (laΛ r1) := by
    obtain ⟨d0, d1, d3, d4, d5, d6, d7, d8⟩ := l6
    refine ⟨?_, ?_, ?_, ?_, ?_, ?_, fun b hb => ?_, fun k hk => ?_⟩
    · rw [e2 0 (by decide)]; exact d0
    · rw [e2 1 (by decide)]; exact d1
    · rw [e2 3 (by decide)]; exact d3
    · rw [e2 4 (by decide)]; exact d4
    · rw [e2 5 (by decide)]; exact d5
    · rw [e2 6 (by decide)]; exact d6
    · show τ 2 b = _; rw [e3]; exact d7 b hb
    · show τ 3 k = _; rw [e4]; exact d8 k hk
  obtain ⟨σ3, f1, f2, f3⟩ := jc_copy (c := 14) (d := 9) mτ (by decide)
  have lσ3 : LC σ3 1 (laΛ r1) := LC.fr lτ (f3 1 (by decide)) (f3 2 (by decide)) (f3 3 (by decide))
  have m4 : MC (up (up σ3 24 3 0) 0 8 0) 14 (laΛ r1) (laS r1) := (f2.upo (by decide)).upo (by decide)
  have l4 : LC (up (up σ3 24 3 0) 0 8 0) 1 (laΛ r1) := LC.fr lσ3 (by rw [up_na (by decide), up_na (by decide)]) (by rw [up_na (by decide), up_na (by decide)]) (by rw [up_na (by decide), up_na (by decide)])
  have FC : Fs (fun a j => Rcl a j ∨ (1 ≤ a ∧ a ≤ 3) ∨ (14 ≤ a ∧ a ≤ 18) ∨ (a = 24 ∧ j = 3) ∨ (a = 0 ∧ j = 8)) (Sl 113) (up (up σ3 24 3 0) 0 8 0) := by
    refine Fs.up (P := fun a j => Rcl a j ∨ (1 ≤ a ∧ a ≤ 3) ∨ (14 ≤ a ∧ a ≤ 18) ∨ (a = 24 ∧ j = 3) ∨ (a = 0 ∧ j = 8)) (Fs.up (P := fun a j => Rcl a j ∨ (1 ≤ a ∧ a ≤ 3) ∨ (14 ≤ a ∧ a ≤ 18) ∨ (a = 24 ∧ j = 3) ∨ (a = 0 ∧ j = 8)) ?_ (Or.inr (Or.inr (Or.inr (Or.inl ⟨rfl, rfl⟩))))) (Or.inr (Or.inr (Or.inr (Or.inr ⟨rfl, rfl⟩))))
    exact (a3.mono fun _ _ z => Or.inl z).tr ((e5.fs fun a j z => Or.inr (Or.inl z)).tr (f3.fs fun a j z => Or.inr (Or.inr (Or.inl z))))
  refine ⟨up (up σ3 24 3 0) 0 8 0, ?_, m4, l4, ?_, up_s, ?_, fun a ha k => ?_⟩
  · rw [if_pos (show (1 : Int32) ≤ nI (rB r1) by decide), e1, bd2_s, f1, bd2_s]
  · rw [up_n (by decide), up_s]; rfl
  · rw [FC 24 4 (fun z => by rcases z with z | z; (have := z.no; omega); omega)]
    rw [Sl_z (by decide) (by decide)]
    exact S5_z 24 (by decide) (by decide) (by decide) 4
  · rw [FC a k (fun z => by rcases z with z | z; (have := z.no; omega); omega)]
    exact S5_hi (by omega) k
end BEG
