/-! the law's loop: every answer of the class is the reference's -/
section LAW98
variable {σ : Sg}
theorem lt5 {n i : Nat} (hn : n ≤ 2560) (hi : i < 10000) : (Int32.ofNat n - (5 : Int32) < nI i) ↔ n < i + 5 := by
  rw [Int32.lt_iff_toInt_lt, nI_toInt (by omega)]
  have e : (Int32.ofNat n - (5 : Int32)).toInt = (n : Int) - 5 := by
    rw [Int32.toInt_sub, show (Int32.ofNat n).toInt = (n : Int) from nI_toInt (n := n) (by omega), show (5 : Int32).toInt = 5 from by decide]
    exact Int.bmod_eq_of_le (by omega) (by omega)
  rw [e]
  omega
set_option maxHeartbeats 4000000 in
theorem law_loop {Ln : Nat} (xs : Nat → Int32) (hL : Ln ≤ 2560) : ∀ (k i D : Nat) (σ : Sg), Ln + 5 < i + 5 * k → i ≤ Ln + 5 → D + Ln < i + 6000 → Psi D σ → ∃ σ', J_law_b18 Ln xs k (nI i) σ = some (1, σ') := by
  intro k
  induction k with
  | zero =>
    intro i D σ hk hi hD hP
    exact absurd hk (by omega)
  | succ k ih =>
    intro i D σ hk hi hD hP
    rw [J_law_b18]
    by_cases q : Ln < i + 5
    · rw [if_pos ((lt5 hL (by omega)).mpr q)]
      exact ⟨σ, rfl⟩
    rw [if_neg (fun z => q ((lt5 hL (by omega)).mp z)), if_pos ((inb_nI (by omega)).mpr (by omega))]
    have i1 : inb (nI i + (1 : Int32)) Ln = true := by rw [li_1, nI_add]; exact (inb_nI (by omega)).mpr (by omega)
    have i2 : inb (nI i + (2 : Int32)) Ln = true := by rw [li_2, nI_add]; exact (inb_nI (by omega)).mpr (by omega)
    have i3 : inb (nI i + (3 : Int32)) Ln = true := by rw [li_3, nI_add]; exact (inb_nI (by omega)).mpr (by omega)
    have i4 : inb (nI i + (4 : Int32)) Ln = true := by rw [li_4, nI_add]; exact (inb_nI (by omega)).mpr (by omega)
    have a5 : nI i + (5 : Int32) = nI (i + 5) := by rw [li_5, nI_add]
    have nx : ∀ σ2, Psi (D + 1) σ2 → ∃ σ', J_law_b18 Ln xs k (nI i + (5 : Int32)) σ2 = some (1, σ') := fun σ2 h => by
      rw [a5]
      exact ih (i + 5) (D + 1) σ2 (by omega) (by omega) (by omega) h
    have hD2 : D < 2 ^ 20 := by omega
    generalize xs (nI i).toNatClampNeg &&& (31 : Int32) = v
    by_cases e0 : v = 0
    · obtain ⟨r, σ1, σ2, h1, h2, h3⟩ := cl_write hP (xs (nI i + (1 : Int32)).toNatClampNeg)
      rw [if_pos e0, if_pos i1, h1, bd2_s, if_pos i1, h2, bd2_s, if_pos rfl]
      exact nx σ2 (h3.le (by omega))
    rw [if_neg e0]
    by_cases e1 : v = 1
    · obtain ⟨r, σ1, σ2, h1, h2, h3⟩ := cl_wipe hP 
      rw [if_pos e1, h1, bd2_s, h2, bd2_s, if_pos rfl]
      exact nx σ2 (h3.le (by omega))
    rw [if_neg e1]
    by_cases e2 : v = 2
    · obtain ⟨r, σ1, σ2, h1, h2, h3⟩ := cl_fault hP 
      rw [if_pos e2, h1, bd2_s, h2, bd2_s, if_pos rfl]
      exact nx σ2 (h3.le (by omega))
    rw [if_neg e2]
    by_cases e3 : v = 3
    · obtain ⟨r, σ1, σ2, h1, h2, h3⟩ := cl_lay hP 
      rw [if_pos e3, h1, bd2_s, h2, bd2_s, if_pos rfl]
      exact nx σ2 (h3.le (by omega))
    rw [if_neg e3]
    by_cases e4 : v = 4
    · obtain ⟨r, σ2, h1, h2, h3⟩ := cl_square hP (xs (nI i + (1 : Int32)).toNatClampNeg) (xs (nI i + (2 : Int32)).toNatClampNeg)
      rw [if_pos e4, if_pos i1, if_pos i2, h1, bd1_s, if_pos i1, if_pos i2, h2, bd2_s, if_pos rfl]
      exact nx σ2 (h3.le (by omega))
    rw [if_neg e4]
    by_cases e5 : v = 5
    · obtain ⟨r, σ2, h1, h2, h3⟩ := cl_beast hP (xs (nI i + (1 : Int32)).toNatClampNeg) (xs (nI i + (2 : Int32)).toNatClampNeg)
      rw [if_pos e5, if_pos i1, if_pos i2, h1, bd1_s, if_pos i1, if_pos i2, h2, bd2_s, if_pos rfl]
      exact nx σ2 (h3.le (by omega))
    rw [if_neg e5]
    by_cases e6 : v = 6
    · obtain ⟨r, σ2, h1, h2, h3⟩ := cl_goes hP hD2 (xs (nI i + (1 : Int32)).toNatClampNeg) (xs (nI i + (2 : Int32)).toNatClampNeg)
      rw [if_pos e6, if_pos i1, if_pos i2, h1, bd1_s, if_pos i1, if_pos i2, h2, bd2_s, if_pos rfl]
      exact nx σ2 (h3.le (by omega))
    rw [if_neg e6]
    by_cases e7 : v = 7
    · obtain ⟨r, σ2, h1, h2, h3⟩ := cl_takes hP hD2 (xs (nI i + (1 : Int32)).toNatClampNeg) (xs (nI i + (2 : Int32)).toNatClampNeg)
      rw [if_pos e7, if_pos i1, if_pos i2, h1, bd1_s, if_pos i1, if_pos i2, h2, bd2_s, if_pos rfl]
      exact nx σ2 (h3.le (by omega))
    rw [if_neg e7]
    by_cases e8 : v = 8
    · obtain ⟨r, σ1, σ2, h1, h2, h3⟩ := cl_drive hP hD2 (xs (nI i + (1 : Int32)).toNatClampNeg) (xs (nI i + (2 : Int32)).toNatClampNeg)
      rw [if_pos e8, if_pos i1, if_pos i2, h1, bd2_s, if_pos i1, if_pos i2, h2, bd2_s, if_pos rfl]
      exact nx σ2 (h3)
    rw [if_neg e8]
    by_cases e9 : v = 9
    · obtain ⟨r, σ1, σ2, h1, h2, h3⟩ := cl_rest hP hD2 
      rw [if_pos e9, h1, bd2_s, h2, bd2_s, if_pos rfl]
      exact nx σ2 (h3)
    rw [if_neg e9]
    by_cases e10 : v = 10
    · obtain ⟨r, σ1, σ2, h1, h2, h3⟩ := cl_undo hP 
      rw [if_pos e10, h1, bd2_s, h2, bd2_s, if_pos rfl]
      exact nx σ2 (h3.le (by omega))
    rw [if_neg e10]
    by_cases e11 : v = 11
    · obtain ⟨r, σ1, σ2, h1, h2, h3⟩ := cl_fewest hP hD2 (xs (nI i + (1 : Int32)).toNatClampNeg) (xs (nI i + (2 : Int32)).toNatClampNeg) (xs (nI i + (3 : Int32)).toNatClampNeg)
      rw [if_pos e11, if_pos i1, if_pos i2, if_pos i3, h1, bd2_s, if_pos i1, if_pos i2, if_pos i3, h2, bd2_s, if_pos rfl]
      exact nx σ2 (h3.le (by omega))
    rw [if_neg e11]
    by_cases e12 : v = 12
    · obtain ⟨r, σ1, σ2, h1, h2, h3⟩ := cl_stray hP hD2 (xs (nI i + (1 : Int32)).toNatClampNeg) (xs (nI i + (2 : Int32)).toNatClampNeg)
      rw [if_pos e12, if_pos i1, if_pos i2, h1, bd2_s, if_pos i1, if_pos i2, h2, bd2_s, if_pos rfl]
      exact nx σ2 (h3.le (by omega))
    rw [if_neg e12]
    by_cases e13 : v = 13
    · obtain ⟨r, σ1, σ2, h1, h2, h3⟩ := cl_summer hP hD2 (xs (nI i + (1 : Int32)).toNatClampNeg) (xs (nI i + (2 : Int32)).toNatClampNeg)
      rw [if_pos e13, if_pos i1, if_pos i2, h1, bd2_s, if_pos i1, if_pos i2, h2, bd2_s, if_pos rfl]
      exact nx σ2 (h3.le (by omega))
    rw [if_neg e13]
    by_cases e14 : v = 14
    · obtain ⟨r, σ1, σ2, h1, h2, h3⟩ := cl_game hP hD2 (xs (nI i + (1 : Int32)).toNatClampNeg) (xs (nI i + (2 : Int32)).toNatClampNeg)
      rw [if_pos e14, if_pos i1, if_pos i2, h1, bd2_s, if_pos i1, if_pos i2, h2, bd2_s, if_pos rfl]
      exact nx σ2 (h3.le (by omega))
    rw [if_neg e14]
    by_cases e15 : v = 15
    · obtain ⟨r, σ1, σ2, h1, h2, h3⟩ := cl_again hP hD2 (xs (nI i + (1 : Int32)).toNatClampNeg)
      rw [if_pos e15, if_pos i1, h1, bd2_s, if_pos i1, h2, bd2_s, if_pos rfl]
      exact nx σ2 (h3.le (by omega))
    rw [if_neg e15]
    by_cases e16 : v = 16
    · obtain ⟨r, σ1, σ2, h1, h2, h3⟩ := cl_starves hP hD2 (xs (nI i + (1 : Int32)).toNatClampNeg)
      rw [if_pos e16, if_pos i1, h1, bd2_s, if_pos i1, h2, bd2_s, if_pos rfl]
      exact nx σ2 (h3.le (by omega))
    rw [if_neg e16]
    by_cases e17 : v = 17
    · obtain ⟨r, σ1, σ2, h1, h2, h3⟩ := cl_otherwise hP hD2 (xs (nI i + (1 : Int32)).toNatClampNeg) (xs (nI i + (2 : Int32)).toNatClampNeg) (xs (nI i + (3 : Int32)).toNatClampNeg)
      rw [if_pos e17, if_pos i1, if_pos i2, if_pos i3, h1, bd2_s, if_pos i1, if_pos i2, if_pos i3, h2, bd2_s, if_pos rfl]
      exact nx σ2 (h3.le (by omega))
    rw [if_neg e17]
    by_cases e18 : v = 18
    · obtain ⟨r, σ1, σ2, h1, h2, h3⟩ := cl_wolves hP hD2 (xs (nI i + (1 : Int32)).toNatClampNeg) (xs (nI i + (2 : Int32)).toNatClampNeg) (xs (nI i + (3 : Int32)).toNatClampNeg) (xs (nI i + (4 : Int32)).toNatClampNeg)
      rw [if_pos e18, if_pos i1, if_pos i2, if_pos i3, if_pos i4, h1, bd2_s, if_pos i1, if_pos i2, if_pos i3, if_pos i4, h2, bd2_s, if_pos rfl]
      exact nx σ2 (h3.le (by omega))
    rw [if_neg e18]
    by_cases e19 : v = 19
    · obtain ⟨r, σ1, σ2, h1, h2, h3⟩ := cl_season hP hD2 (xs (nI i + (1 : Int32)).toNatClampNeg) (xs (nI i + (2 : Int32)).toNatClampNeg) (xs (nI i + (3 : Int32)).toNatClampNeg)
      rw [if_pos e19, if_pos i1, if_pos i2, if_pos i3, h1, bd2_s, if_pos i1, if_pos i2, if_pos i3, h2, bd2_s, if_pos rfl]
      exact nx σ2 (h3.le (by omega))
    rw [if_neg e19]
    by_cases e20 : v = 20
    · obtain ⟨r, σ1, σ2, h1, h2, h3⟩ := cl_keep hP 
      rw [if_pos e20, h1, bd2_s, h2, bd2_s, if_pos rfl]
      exact nx σ2 (h3.le (by omega))
    rw [if_neg e20]
    by_cases e21 : v = 21
    · obtain ⟨r, σ1, σ2, h1, h2, h3⟩ := cl_back hP 
      rw [if_pos e21, h1, bd2_s, h2, bd2_s, if_pos rfl]
      exact nx σ2 (h3.le (by omega))
    rw [if_neg e21]
    by_cases e22 : v = 22
    · obtain ⟨r, σ2, h1, h2, h3⟩ := cl_count hP (xs (nI i + (1 : Int32)).toNatClampNeg)
      rw [if_pos e22, if_pos i1, h1, bd1_s, if_pos i1, h2, bd2_s, if_pos rfl]
      exact nx σ2 (h3.le (by omega))
    rw [if_neg e22]
    exact nx σ (hP.le (by omega))
end LAW98
