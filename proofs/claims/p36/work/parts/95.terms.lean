/-! tails and terms told -/
section TT
variable {σ : Mem} {G : GD}
theorem to64 {x : Int32} : x.toInt64 = oi x.toInt := by
  have h1 := Int32.toInt_lt x
  have h2 := Int32.le_toInt x
  rw [← Int64.toInt_inj, Int32.toInt_toInt64, oi_toInt (by omega) (by omega)]
theorem sub1 {x : Int32} : (x - 1).toInt = if x.toInt = -2 ^ 31 then 2 ^ 31 - 1 else x.toInt - 1 := by
  have h1 := Int32.toInt_lt x
  have h2 := Int32.le_toInt x
  rw [Int32.toInt_sub, show (1 : Int32).toInt = 1 from by decide]
  by_cases h : x.toInt = -2 ^ 31
  · rw [if_pos h, h]; decide
  · rw [if_neg h]
    apply Int.bmod_eq_of_le <;> omega
theorem sub1' {x : Int32} : (x.toInt = -2 ^ 31 ∧ (x - 1).toInt = 2 ^ 31 - 1) ∨ (x.toInt ≠ -2 ^ 31 ∧ (x - 1).toInt = x.toInt - 1) := by
  by_cases h : x.toInt = -2 ^ 31
  · left; refine ⟨h, ?_⟩; rw [sub1, if_pos h]
  · right; refine ⟨h, ?_⟩; rw [sub1, if_neg h]
def isTl (n : Nat) (j i k : Int32) : Bool := decide (1 ≤ i.toInt ∧ i.toInt < j.toInt ∧ j.toInt < k.toInt ∧ k.toInt ≤ n)
theorem c_isTl {a : Nat} (h : σ.1 a 0 = i32 (gn G)) (hn : gn G ≤ 6) {j i k : Int32} : f_X6_isTail σ a (j - 1) (i - 1) (k - 1) = some (isTl (gn G) j i k) := by
  have j1 := Int32.toInt_lt j
  have j2 := Int32.le_toInt j
  have i1 := Int32.toInt_lt i
  have i2 := Int32.le_toInt i
  have k1 := Int32.toInt_lt k
  have k2 := Int32.le_toInt k
  have sj := sub1' (x := j)
  have si := sub1' (x := i)
  have sk := sub1' (x := k)
  have z0 : (0 : Int32).toInt = 0 := by decide
  unfold f_X6_isTail isTl
  by_cases h1 : i - 1 < 0
  · have h1' := Int32.lt_iff_toInt_lt.mp h1
    rw [z0] at h1'
    rw [if_pos h1, decide_eq_false]
    · rfl
    · omega
  · have h1' : ¬ (i - 1).toInt < 0 := fun z => h1 (Int32.lt_iff_toInt_lt.mpr (by rw [z0]; exact z))
    rw [if_neg h1]
    by_cases h2 : j - 1 ≤ i - 1
    · have h2' := Int32.le_iff_toInt_le.mp h2
      rw [if_pos h2, decide_eq_false]
      · rfl
      · omega
    · have h2' : ¬ (j - 1).toInt ≤ (i - 1).toInt := fun z => h2 (Int32.le_iff_toInt_le.mpr z)
      rw [if_neg h2]
      by_cases h3 : k - 1 ≤ j - 1
      · have h3' := Int32.le_iff_toInt_le.mp h3
        rw [if_pos h3, decide_eq_false]
        · rfl
        · omega
      · have h3' : ¬ (k - 1).toInt ≤ (j - 1).toInt := fun z => h3 (Int32.le_iff_toInt_le.mpr z)
        rw [if_neg h3, e_gF, h]
        by_cases h4 : i32 (gn G) ≤ k - 1
        · have h4' := (ge32 (by omega)).mp h4
          rw [if_pos h4, decide_eq_false]
          · rfl
          · omega
        · have h4' : ¬ (gn G : Int) ≤ (k - 1).toInt := fun z => h4 ((ge32 (by omega)).mpr z)
          rw [if_neg h4, decide_eq_true]
          · rfl
          · omega
theorem isTl_idx {n : Nat} {j i k : Int32} (h : isTl n j i k = true) : ∃ a b c, b < a ∧ a < c ∧ c < n ∧ j - 1 = i32 a ∧ i - 1 = i32 b ∧ k - 1 = i32 c := by
  have h1 := of_decide_eq_true h
  have hi := i32_of (x := i) (by omega)
  have hj := i32_of (x := j) (by omega)
  have hk := i32_of (x := k) (by omega)
  refine ⟨j.toInt.toNat - 1, i.toInt.toNat - 1, k.toInt.toNat - 1, by omega, by omega, by omega, ?_, ?_, ?_⟩
  · have h3 := i32_sub (a := j.toInt.toNat) (b := 1) (by omega)
    rw [← hj] at h3; exact h3
  · have h3 := i32_sub (a := i.toInt.toNat) (b := 1) (by omega)
    rw [← hi] at h3; exact h3
  · have h3 := i32_sub (a := k.toInt.toNat) (b := 1) (by omega)
    rw [← hk] at h3; exact h3
theorem c_hasPoly {b : Bool} (h : σ.1 2 0 = i32 (gn G)) (hn : gn G ≤ 6) (hb : σ.1 40 3 = b2i b) {x : Int32} : f_X10_hasPolynomial σ x = some (isGen (gn G) x && b) := by
  unfold f_X10_hasPolynomial
  rw [c_isGen h hn, e_bs]
  cases isGen (gn G) x with
  | false => rfl
  | true =>
    rw [if_pos rfl, e_gZ hb]
    cases b <;> rfl
/-- the class's terms, where it is a group -/
theorem c_ct {c : Nat} {S : AS} (h : ICls c S σ) (hc : Cons (aG S)) : CPoly (aG S) σ := by
  obtain ⟨b, h1, h2, h3, _⟩ := h.2.2.2.2.2.2.2.1
  exact h3 (h2.mpr hc)
end TT

