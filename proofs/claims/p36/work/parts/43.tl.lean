/-! a letter's power behind an element: the closed form in whole numbers -/
def oi (x : Int) : Int64 := Int64.ofInt x
theorem oi_add {a b : Int} : oi a + oi b = oi (a + b) := (Int64.ofInt_add a b).symm
theorem oi_sub {a b : Int} : oi a - oi b = oi (a - b) := (Int64.ofInt_sub a b).symm
theorem oi_mul {a b : Int} : oi a * oi b = oi (a * b) := (Int64.ofInt_mul a b).symm
theorem oi_neg {a : Int} : -oi a = oi (-a) := (Int64.ofInt_neg a).symm
theorem oi_toInt {x : Int} (h1 : -2 ^ 63 ≤ x) (h2 : x < 2 ^ 63) : (oi x).toInt = x := Int64.toInt_ofInt_of_le h1 h2
def two (x : Int) : Int := x * (x - 1) / 2
theorem two_ok {x : Int} (h1 : -2 ^ 31 ≤ x) (h2 : x ≤ 2 ^ 31) : oi x * (oi x - 1) / 2 = oi (two x) := by
  have e1 : (1 : Int64) = oi 1 := rfl
  have e2 : (2 : Int64) = oi 2 := rfl
  rw [e1, e2, oi_sub, oi_mul]
  have hp : 0 ≤ x * (x - 1) := by
    by_cases h : 1 ≤ x
    · exact Int.mul_nonneg (by omega) (by omega)
    · have := Int.mul_nonneg (show 0 ≤ -x by omega) (show 0 ≤ -(x - 1) by omega)
      rwa [Int.neg_mul_neg] at this
  have hb : x * (x - 1) ≤ 2 ^ 62 + 2 ^ 31 := by
    by_cases h : 1 ≤ x
    · have := Int.mul_le_mul (a := x) (b := x - 1) (c := 2 ^ 31) (d := 2 ^ 31) h2 (by omega) (by omega) (by omega)
      omega
    · have h3 := Int.mul_le_mul (a := -x) (b := -(x - 1)) (c := 2 ^ 31) (d := 2 ^ 31 + 1) (by omega) (by omega) (by omega) (by omega)
      rw [Int.neg_mul_neg] at h3
      omega
  unfold two
  rw [← Int64.toInt_inj, Int64.toInt_div, oi_toInt (by omega) (by omega), oi_toInt (by omega) (by omega), oi_toInt (by omega) (by omega), Int.tdiv_eq_ediv_of_nonneg hp]
  apply Int.bmod_eq_of_le <;> omega
/-- sums -/
def sm (f : Nat → Int) : Nat → Int
  | 0 => 0
  | n + 1 => sm f n + f n
theorem sm_congr {f g : Nat → Int} {n : Nat} (h : ∀ k, k < n → f k = g k) : sm f n = sm g n := by
  induction n with
  | zero => rfl
  | succ n ih => simp only [sm]; rw [ih (fun k hk => h k (by omega)), h n (Nat.lt_succ_self n)]
abbrev tI (G : GD) (j i k : Nat) : Int := (gt G j i k : Int)
/-- what is behind two letters: by k, at m -/
def behind (G : GD) (a : Nat → Int) (j i : Nat) (y : Int) (k m : Nat) : Int :=
  tI G k i m * a j * two y + tI G k j m * y * two (a j) + sm (fun q => if j < q ∧ gw G q = 1 then a j * y * tI G k q m * a q else 0) (gn G)
def passOne (G : GD) (a : Nat → Int) (j i : Nat) (y : Int) (m : Nat) : Int :=
  tI G j i m * a j * y + sm (fun k => tI G j i k * behind G a j i y k m) (gn G)
def TL (G : GD) (a : Nat → Int) (i : Nat) (y : Int) (m : Nat) : Int :=
  a m + (if m = i then y else 0) + (if gw G i = 1 then
    sm (fun j => if i < j ∧ gw G j = 2 then tI G j i m * (a j * y) else if i < j ∧ gw G j = 1 then passOne G a j i y m else 0) (gn G) else 0)
def mulU (G : GD) (a b : Nat → Int) : Nat → (Nat → Int)
  | 0 => a
  | n + 1 => TL G (mulU G a b n) n (b n)
def mul (G : GD) (a b : Nat → Int) : Nat → Int := mulU G a b (gn G)
def up (M : Nat → Int) (m : Nat) (x : Int) : Nat → Int := fun k => if k = m then M k + x else M k
theorem sm_tail {f : Nat → Int} {e n : Nat} (h : e ≤ n) (hz : ∀ k, e ≤ k → k < n → f k = 0) : sm f n = sm f e := by
  induction n with
  | zero => rw [show e = 0 by omega]
  | succ n ih =>
    by_cases h1 : e = n + 1
    · rw [h1]
    · simp only [sm]
      rw [ih (by omega) (fun k h2 h3 => hz k h2 (by omega)), hz n (by omega) (Nat.lt_succ_self n), Int.add_zero]
theorem sm_zero {f : Nat → Int} {n : Nat} (hz : ∀ k, k < n → f k = 0) : sm f n = 0 := sm_tail (e := 0) (Nat.zero_le n) (fun k _ h => hz k h)
def two64ok (x : Int) : Prop := -2 ^ 31 ≤ x ∧ x ≤ 2 ^ 31
theorem sm_mul {c : Int} {f : Nat → Int} {n : Nat} : c * sm f n = sm (fun k => c * f k) n := by
  induction n with
  | zero => exact Int.mul_zero c
  | succ n ih => simp only [sm]; rw [Int.mul_add, ih]
theorem sm_add {f g : Nat → Int} {n : Nat} : sm f n + sm g n = sm (fun k => f k + g k) n := by
  induction n with
  | zero => rfl
  | succ n ih => simp only [sm]; rw [← ih]; omega
theorem behind_0 {G : GD} (hG : GOK G) {a : Nat → Int} {j i k m : Nat} {y : Int} (h : m ≤ k ∨ gn G ≤ m ∨ 2 < gw G k) : tI G j i k * behind G a j i y k m = 0 := by
  have hz : ∀ q, gt G k q m = 0 ∨ gt G j i k = 0 := by
    intro q
    by_cases h1 : gt G k q m = 0
    · exact Or.inl h1
    · refine Or.inr ?_
      have h2 := hG.2.2.2.2.2.2 k q m h1
      rcases h with h | h | h
      · omega
      · omega
      · have h3 := (hG.2.2.1 q (by omega)).1
        have h4 := (hG.2.2.1 m (by omega)).2
        omega
  by_cases ht : gt G j i k = 0
  · unfold tI; rw [ht]; exact Int.zero_mul _
  · have hz2 : ∀ q, tI G k q m = 0 := fun q => by
      unfold tI
      rcases hz q with h1 | h1
      · rw [h1]; rfl
      · exact absurd h1 ht
    unfold behind
    rw [hz2, hz2, sm_zero (fun q _ => by rw [hz2]; split <;> simp)]
    simp
