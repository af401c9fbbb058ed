/-! both made: the invariant holds -/
theorem mb_end {σ : Sg} (m : MB σ 25 5 8 4 0 36) : RM (up (up (up (up σ 141 27 7) 141 28 3) 141 29 4) 156 3 1) r1 ∧ Fs Rx σ (up (up (up (up σ 141 27 7) 141 28 3) 141 29 4) 156 3 1) := by
  obtain ⟨⟨c0, c1, c2, c3, c4, c5, c6, c7, c8⟩, z⟩ := m
  refine ⟨⟨?_, ?_, ?_, ?_, ?_, ?_, fun x hx => ?_, fun b hb => ?_, fun k hk => ?_⟩, Fs.up (P := Rx) (Fs.up (P := Rx) (Fs.up (P := Rx) (Fs.up (P := Rx) Fs.rf (Or.inr ⟨rfl, by decide⟩)) (Or.inr ⟨rfl, by decide⟩)) (Or.inr ⟨rfl, by decide⟩)) (Or.inl (by decide))⟩
  · rw [up_n (by decide), up_i (by decide), up_i (by decide), up_i (by decide)]; exact c0
  · rw [up_n (by decide), up_i (by decide), up_i (by decide), up_i (by decide)]; exact c1
  · rw [up_n (by decide), up_i (by decide), up_i (by decide), up_i (by decide)]; exact c2
  · rw [up_n (by decide), up_i (by decide), up_i (by decide), up_s]; rfl
  · rw [up_n (by decide), up_i (by decide), up_s]; rfl
  · rw [up_n (by decide), up_s]; rfl
  · rw [up_n (by decide), up_n (by decide), up_n (by decide), up_n (by decide)]; exact c6 x hx
  · have g : ∀ a, a ≠ 141 → a ≠ 156 → ∀ j, (up (up (up (up σ 141 27 7) 141 28 3) 141 29 4) 156 3 1) a j = σ a j := fun a h1 h2 j => by rw [up_n h2, up_n h1, up_n h1, up_n h1]
    rw [g 153 (by decide) (by decide), g 154 (by decide) (by decide), g 155 (by decide) (by decide)]
    exact c7 b hb
  · have hk' : k < 4 := hk
    show _ = nI (Y1 k)
    rcases (show k = 0 ∨ k = 1 ∨ k = 2 ∨ k = 3 by omega) with e | e | e | e <;> rw [e]
    · rw [up_i (by decide), up_n (by decide), up_n (by decide), up_n (by decide), z]; rfl
    · rw [up_i (by decide), up_n (by decide), up_n (by decide), up_n (by decide), z]; rfl
    · rw [up_i (by decide), up_n (by decide), up_n (by decide), up_n (by decide), z]; rfl
    · rw [up_s]; rfl
theorem Rse.rx {a j : Nat} (h : Rse a j) : Rx a j := by
  rcases h.no with z | z
  · exact Or.inl z.1
  · exact Or.inr ⟨z.1, by omega⟩
theorem kx_both : ∃ σc σe, AMo yX7_init mX7_init [.ref 0] 1 (Rt 0) S0 (none, 141, R0, σc) ∧ AMc yX8_init mX8_init [.ref 141] 142 (Rt 168) σc (none, 165, R0, σe) ∧ (∀ a, 141 ≤ a → ∀ k, σc a k = 0) ∧ Psi 0 σe := by
  obtain ⟨σ4, b1, b2, b3, b4, b5, b6, b7⟩ := jb_begin
  have hz : ∀ a, 141 ≤ a → ∀ k, (up σ4 4 3 0) a k = 0 := fun a ha k => by rw [up_n (show a ≠ 4 by omega)]; exact b7 a ha k
  obtain ⟨s0, e0, m0, F0⟩ := jz_clear hz
  obtain ⟨s1, e1, m1, F1⟩ := mb_row (a := 1203) m0 (by decide) (by decide) (by decide) (by decide) (by decide) (by decide)
  obtain ⟨s2, e2, m2, F2⟩ := mb_row (a := 30092) m1 (by decide) (by decide) (by decide) (by decide) (by decide) (by decide)
  obtain ⟨s3, e3, m3, F3⟩ := mb_row (a := 410) m2 (by decide) (by decide) (by decide) (by decide) (by decide) (by decide)
  obtain ⟨s4, e4, m4, F4⟩ := mb_row (a := 29000) m3 (by decide) (by decide) (by decide) (by decide) (by decide) (by decide)
  obtain ⟨s5, e5, m5, F5⟩ := mb_row (a := 130) m4 (by decide) (by decide) (by decide) (by decide) (by decide) (by decide)
  obtain ⟨t0, f0, n0, H0⟩ := mb_bea (k := 0) (v := 0) (x := 22) m5 (by decide) (by decide) (by decide) (by decide)
  obtain ⟨t1, f1, n1, H1⟩ := mb_bea (k := 1) (v := 0) (x := 20) n0 (by decide) (by decide) (by decide) (by decide)
  obtain ⟨t2, f2, n2, H2⟩ := mb_bea (k := 2) (v := 0) (x := 21) n1 (by decide) (by decide) (by decide) (by decide)
  obtain ⟨t3, f3, n3, H3⟩ := mb_bea (k := 3) (v := 0) (x := 24) n2 (by decide) (by decide) (by decide) (by decide)
  obtain ⟨t4, f4, n4, H4⟩ := mb_bea (k := 0) (v := 1) (x := 2) n3 (by decide) (by decide) (by decide) (by decide)
  obtain ⟨t5, f5, n5, H5⟩ := mb_bea (k := 1) (v := 1) (x := 4) n4 (by decide) (by decide) (by decide) (by decide)
  obtain ⟨t6, f6, n6, H6⟩ := mb_bea (k := 2) (v := 1) (x := 1) n5 (by decide) (by decide) (by decide) (by decide)
  obtain ⟨t7, f7, n7, H7⟩ := mb_bea (k := 3) (v := 1) (x := 0) n6 (by decide) (by decide) (by decide) (by decide)
  obtain ⟨rm, F6⟩ := mb_end n7
  obtain ⟨σe, g, g2, g3, g4, g5, g6⟩ := jm_settles rm r1_ok (by decide)
  obtain ⟨lok, sok⟩ := la_ok r1_ok (by decide)
  have F : Fs Rx (up σ4 4 3 0) σe := (F0.tr (F1.tr (F2.tr (F3.tr (F4.tr (F5.tr (H0.tr (H1.tr (H2.tr (H3.tr (H4.tr (H5.tr (H6.tr (H7.tr (F6.tr (g6.mono fun _ _ z => z.rx))))))))))))))))
  have nR : ∀ a j, Rx a j → 142 ≤ a ∨ (a = 141 ∧ j ≠ 17) := fun a j z => z
  have l0 : LC (up σ4 4 3 0) 1 (laΛ r1) := LC.fr b3 (by rw [up_na (by decide)]) (by rw [up_na (by decide)]) (by rw [up_na (by decide)])
  have c0 : MC (up σ4 4 3 0) 14 (laΛ r1) (laS r1) := b2.upo (by decide)
  refine ⟨up σ4 4 3 0, σe, kx_7 b1, kx_8 hz e0 e1 e2 e3 e4 e5 f0 f1 f2 f3 f4 f5 f6 f7 g, hz, laΛ r1, laS r1, 0, 0, fun _ => laS r1, fun _ => 0, 0, fun _ => laS r1, 0, ⟨l0.frs F fun a j z1 z2 w => by have := nR _ _ w; omega, g2, lok⟩, ⟨c0.frs F fun a j z1 z2 w => by have := nR _ _ w; omega, g3, sok, Nat.le_refl _⟩, ⟨by decide, by decide, ?_, ?_, g4, fun i hi => absurd hi (Nat.not_lt_zero i)⟩, ⟨by decide, ?_, g5, fun i hi => absurd hi (Nat.not_lt_zero i)⟩, ⟨by decide, ?_, ?_, fun i hi => absurd hi (Nat.not_lt_zero i)⟩⟩
  · rw [F 24 3 (fun w => by have := nR _ _ w; omega), up_n (by decide)]; exact b4
  · rw [F 24 4 (fun w => by have := nR _ _ w; omega), up_n (by decide)]; exact b6
  · rw [F 0 8 (fun w => by have := nR _ _ w; omega), up_n (by decide)]; exact b5
  · rw [F 4 3 (fun w => by have := nR _ _ w; omega), up_s]; rfl
  · rw [F 141 17 (fun w => by have := nR _ _ w; omega)]; exact hz 141 (by decide) 17
