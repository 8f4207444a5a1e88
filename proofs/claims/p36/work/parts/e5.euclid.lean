/-! columns divided by one of them: how large they get -/
section EUC
/-- a number between two others' bounds -/
def Wi (B x : Int) : Prop := -B ≤ x ∧ x ≤ B
theorem Wi.mul {A B x y : Int} (h : Wi A x) (k : Wi B y) : Wi (A * B) (x * y) := by
  have hA : 0 ≤ A := by have := h.1; have := h.2; omega
  have hB : 0 ≤ B := by have := k.1; have := k.2; omega
  have h1 : x.natAbs ≤ A.natAbs := by have := h.1; have := h.2; omega
  have h2 : y.natAbs ≤ B.natAbs := by have := k.1; have := k.2; omega
  have h3 : (x * y).natAbs ≤ (A * B).natAbs := by
    rw [Int.natAbs_mul, Int.natAbs_mul]
    exact Nat.mul_le_mul h1 h2
  have h4 : 0 ≤ A * B := Int.mul_nonneg hA hB
  exact ⟨by omega, by omega⟩
theorem Wi.add {A B x y : Int} (h : Wi A x) (k : Wi B y) : Wi (A + B) (x + y) := ⟨by have := h.1; have := k.1; omega, by have := h.2; have := k.2; omega⟩
theorem Wi.sub {A B x y : Int} (h : Wi A x) (k : Wi B y) : Wi (A + B) (x - y) := ⟨by have := h.1; have := k.2; omega, by have := h.2; have := k.1; omega⟩
theorem Wi.mono {A B x : Int} (h : Wi A x) (k : A ≤ B) : Wi B x := ⟨by have := h.1; omega, by have := h.2; omega⟩
theorem Wi.neg {A x : Int} (h : Wi A x) : Wi A (-x) := ⟨by have := h.2; omega, by have := h.1; omega⟩
theorem Wi.nonneg {A x : Int} (h : Wi A x) : 0 ≤ A := by have := h.1; have := h.2; omega
/-- a factor taken away -/
theorem Wi.div {p x B : Int} (hp : p ≠ 0) (h : Wi ((p.natAbs : Int) * B) (p * x)) : Wi B x := by
  have hB : 0 ≤ B := by
    have h1 := h.nonneg
    rcases (show 0 ≤ B ∨ B < 0 by omega) with h2 | h2
    · exact h2
    · have h3 : (p.natAbs : Int) * B < 0 := Int.mul_neg_of_pos_of_neg (by omega) h2
      omega
  have h1 : (p * x).natAbs ≤ ((p.natAbs : Int) * B).natAbs := by have := h.1; have := h.2; omega
  rw [Int.natAbs_mul, Int.natAbs_mul, Int.natAbs_natCast] at h1
  have h2 : x.natAbs ≤ B.natAbs := Nat.le_of_mul_le_mul_left h1 (by omega)
  exact ⟨by omega, by omega⟩
/-- between nothing and a number -/
def Btw (r x : Int) : Prop := (0 ≤ r ∧ r ≤ x) ∨ (x ≤ r ∧ r ≤ 0)
theorem Btw.mul {r x A : Int} (h : Btw r x) : Btw (r * A) (x * A) := by
  rcases (show 0 ≤ A ∨ A < 0 by omega) with hA | hA
  · rcases h with ⟨h1, h2⟩ | ⟨h1, h2⟩
    · exact Or.inl ⟨Int.mul_nonneg h1 hA, Int.mul_le_mul_of_nonneg_right h2 hA⟩
    · exact Or.inr ⟨Int.mul_le_mul_of_nonneg_right h1 hA, Int.mul_nonpos_of_nonpos_of_nonneg h2 hA⟩
  · rcases h with ⟨h1, h2⟩ | ⟨h1, h2⟩
    · exact Or.inr ⟨Int.mul_le_mul_of_nonpos_right h2 (by omega), Int.mul_nonpos_of_nonneg_of_nonpos h1 (by omega)⟩
    · exact Or.inl ⟨Int.mul_nonneg_of_nonpos_of_nonpos h2 (by omega), Int.mul_le_mul_of_nonpos_right h1 (by omega)⟩
/-- the rest of a division towards nothing -/
theorem tmod_btw {x p : Int} (hp : p ≠ 0) : Btw (x - x.tdiv p * p) x ∧ (x - x.tdiv p * p).natAbs < p.natAbs := by
  have e : x - x.tdiv p * p = x.tmod p := by
    have := Int.tmod_add_mul_tdiv x p
    rw [Int.mul_comm] at this
    omega
  rw [e]
  have h1 : (x.tmod p).natAbs < p.natAbs := by
    rw [Int.natAbs_tmod]
    exact Nat.mod_lt _ (by omega)
  have h2 : (x.tmod p).natAbs ≤ x.natAbs := by
    rw [Int.natAbs_tmod]
    exact Nat.mod_le _ _
  refine ⟨?_, h1⟩
  rcases (show 0 ≤ x ∨ x < 0 by omega) with hx | hx
  · have h3 : 0 ≤ x.tmod p := Int.tmod_nonneg p hx
    exact Or.inl ⟨h3, by omega⟩
  · have h3 : 0 ≤ (-x).tmod p := Int.tmod_nonneg p (by omega)
    rw [Int.neg_tmod] at h3
    exact Or.inr ⟨by omega, by omega⟩
/-- two columns less a third: their cross with one number more -/
theorem cross_round {xp xc xe yp yc ye B : Int} (hp : xp ≠ 0) (h1 : Wi B (xp * yc - xc * yp)) (h2 : Wi B (xp * ye - xe * yp)) (h3 : Wi B (xc * ye - xe * yc)) : Wi B ((xc - xc.tdiv xp * xp) * (ye - xe.tdiv xp * yp) - (xe - xe.tdiv xp * xp) * (yc - xc.tdiv xp * yp)) := by
  obtain ⟨b1, l1⟩ := tmod_btw (x := xc) hp
  obtain ⟨b2, l2⟩ := tmod_btw (x := xe) hp
  generalize xc.tdiv xp = q at *
  generalize xe.tdiv xp = r at *
  refine Wi.div hp ?_
  have e : xp * ((xc - q * xp) * (ye - r * yp) - (xe - r * xp) * (yc - q * yp)) = (xc - q * xp) * (xp * ye - xe * yp) - (xe - r * xp) * (xp * yc - xc * yp) := by grind
  have e0 : xp * (xc * ye - xe * yc) = xc * (xp * ye - xe * yp) - xe * (xp * yc - xc * yp) := by grind
  have w0 : Wi ((xp.natAbs : Int) * B) (xp * (xc * ye - xe * yc)) := Wi.mul ⟨by omega, by omega⟩ h3
  have w1 : Wi ((xp.natAbs : Int) * B) ((xc - q * xp) * (xp * ye - xe * yp)) := Wi.mul ⟨by omega, by omega⟩ h2
  have w2 : Wi ((xp.natAbs : Int) * B) ((xe - r * xp) * (xp * yc - xc * yp)) := Wi.mul ⟨by omega, by omega⟩ h1
  have m1 := b1.mul (A := xp * ye - xe * yp)
  have m2 := b2.mul (A := xp * yc - xc * yp)
  rw [e0] at w0
  rw [e]
  generalize (xp.natAbs : Int) * B = M at *
  generalize (xc - q * xp) * (xp * ye - xe * yp) = a at *
  generalize (xe - r * xp) * (xp * yc - xc * yp) = b at *
  generalize xc * (xp * ye - xe * yp) = a0 at *
  generalize xe * (xp * yc - xc * yp) = b0 at *
  obtain ⟨w3, w4⟩ := w0
  obtain ⟨w5, w6⟩ := w1
  obtain ⟨w7, w8⟩ := w2
  unfold Btw at m1 m2
  constructor <;> omega
/-- a column less another: its number at another place -/
theorem value_round {xp xc yp yc B : Int} (hp : xp ≠ 0) (h1 : Wi B (xp * yc - xc * yp)) (h2 : Wi B yp) : Wi B (yc - xc.tdiv xp * yp) := by
  obtain ⟨b1, l1⟩ := tmod_btw (x := xc) hp
  generalize xc.tdiv xp = q at *
  have hB := h2.nonneg
  refine Wi.div hp ?_
  have e : xp * (yc - q * yp) = (xc - q * xp) * yp + (xp * yc - xc * yp) := by grind
  have w1 : Wi (((xp.natAbs : Int) - 1) * B) ((xc - q * xp) * yp) := Wi.mul ⟨by omega, by omega⟩ h2
  rw [e]
  refine (w1.add h1).mono ?_
  rw [Int.sub_mul]
  omega
/-- the cross with the one that is taken stays -/
theorem cross_pivot {xp xc yp yc q : Int} : xp * (yc - q * yp) - (xc - q * xp) * yp = xp * yc - xc * yp := by grind
end EUC
