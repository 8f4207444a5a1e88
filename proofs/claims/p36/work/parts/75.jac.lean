/-! how far a product is from not minding who multiplies first -/
section JC
variable {G : GD}
theorem mul_diff (hG : GOK G) {a b c : Nat → Int} {m : Nat} (hm : m < gn G) : mul G (mul G a b) c m + S3 (gn G) (fun x y z => ((if y = z then DD G m x y z else 0) + ((if y < z then DD G m x y z else 0) + (if z < y then DD G m x z y else 0))) * (a x * b y * c z)) = mul G a (mul G b c) m + S3 (gn G) (fun x y z => (DD G m x y z + (if x = y then DD G m x z y else 0) + ((if x < y then DD G m x z y else 0) + (if y < x then DD G m y z x else 0))) * (a x * b y * c z)) := by
  have s1 : S3 (gn G) (fun x y z => ((if y = z then DD G m x y z else 0) + ((if y < z then DD G m x y z else 0) + (if z < y then DD G m x z y else 0))) * (a x * b y * c z)) = S3 (gn G) (fun x y z => if y = z then DD G m x y z * (a x * b y * c z) else 0) + S3 (gn G) (fun x y z => (if y < z then DD G m x y z * (a x * b y * c z) else 0) + (if z < y then DD G m x z y * (a x * b y * c z) else 0)) := by
    rw [S3_add]
    refine S3_congr (fun x y z _ _ _ => ?_)
    rw [Int.add_mul, Int.add_mul]
    congr 1
    · split <;> simp
    · congr 1 <;> split <;> simp
  have s2 : S3 (gn G) (fun x y z => (DD G m x y z + (if x = y then DD G m x z y else 0) + ((if x < y then DD G m x z y else 0) + (if y < x then DD G m y z x else 0))) * (a x * b y * c z)) = S3 (gn G) (fun x y z => DD G m x y z * (a x * b y * c z)) + S3 (gn G) (fun x y z => if x = y then DD G m x z y * (a x * b y * c z) else 0) + S3 (gn G) (fun x y z => (if x < y then DD G m x z y * (a x * b y * c z) else 0) + (if y < x then DD G m y z x * (a x * b y * c z) else 0)) := by
    rw [S3_add, S3_add]
    refine S3_congr (fun x y z _ _ _ => ?_)
    rw [Int.add_mul, Int.add_mul, Int.add_mul]
    congr 1
    · congr 1
      split <;> simp
    · congr 1 <;> split <;> simp
  rw [s1, s2, mul_eq hG hm (a := mul G a b), mul_eq hG hm (a := a) (b := mul G b c), mul_eq hG hm, mul_eq hG hm (a := b),
    pT_left hG hm, pT_right hG hm, pU_left hG, pU_right hG, pV_left hG, pV_right hG, pW_left hG, pW_right hG, pX_left hG, pX_right hG]
  omega
def EE (k : Nat) : Nat → Int := fun x => if x = k then 1 else 0
theorem S3_unit {n k j i : Nat} {F : Nat → Nat → Nat → Int} (hk : k < n) (hj : j < n) (hi : i < n) : S3 n (fun x y z => F x y z * (EE k x * EE j y * EE i z)) = F k j i := by
  unfold S3
  have e : ∀ (g : Nat → Int) (q : Nat), q < n → (∀ p, p < n → p ≠ q → g p = 0) → sm g n = g q := fun g q hq h => by
    have : sm g n = sm (fun p => if q = p then g p else 0) n := sm_congr (fun p hp => by
      by_cases h1 : q = p
      · rw [if_pos h1]
      · rw [if_neg h1, h p hp (fun z => h1 z.symm)])
    rw [this, sm_delta hq]
  rw [e _ k hk (fun p _ h => sm_zero (fun y _ => sm_zero (fun z _ => by simp [EE, h]))),
    e _ j hj (fun p _ h => sm_zero (fun z _ => by simp [EE, h])),
    e _ i hi (fun p _ h => by simp [EE, h])]
  simp [EE]
/-- three letters that agree: Jacobi's law for them -/
theorem jac_of (hG : GOK G) {k j i m : Nat} (hi : i < j) (hj : j < k) (hk : k < gn G) (hm : m < gn G) (h : mul G (mul G (EE k) (EE j)) (EE i) m = mul G (EE k) (mul G (EE j) (EE i)) m) : DD G m k j i + DD G m j i k = DD G m k i j := by
  have e := mul_diff hG (a := EE k) (b := EE j) (c := EE i) hm
  rw [S3_unit hk (by omega) (by omega), S3_unit hk (by omega) (by omega), h] at e
  rw [if_neg (by omega : ¬ j = i), if_neg (by omega : ¬ j < i), if_pos hi, if_neg (by omega : ¬ k = j), if_neg (by omega : ¬ k < j), if_pos hj] at e
  omega
end JC

