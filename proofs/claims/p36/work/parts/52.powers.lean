/-! commutators and conjugates in two ways; powers by binomials -/
section PO
variable {G : GD}
theorem comm_eq (hG : GOK G) (hJ : Jac G) {a b : Nat → Int} : EqG G (mul G (inv G (mul G b a)) (mul G a b)) (mul G (mul G (mul G (inv G a) (inv G b)) a) b) :=
  ((inv_prod hG hJ).times EqG.refl).trans (massoc hG hJ).symm
theorem conj_eq (hG : GOK G) (hJ : Jac G) {a u : Nat → Int} : EqG G (mul G (inv G u) (mul G a u)) (mul G (mul G (inv G u) a) u) := (massoc hG hJ).symm
theorem commute_iff (hG : GOK G) (hJ : Jac G) {a b : Nat → Int} : EqG G (mul G (mul G (mul G (inv G a) (inv G b)) a) b) O ↔ EqG G (mul G a b) (mul G b a) := by
  refine ⟨fun h => ?_, fun h => ?_⟩
  · have h1 : EqG G (mul G (inv G (mul G b a)) (mul G a b)) (mul G (inv G (mul G b a)) (mul G b a)) := (comm_eq hG hJ).trans (h.trans (inv_mul hG hJ).symm)
    exact mul_left_cancel hG hJ h1
  · exact (comm_eq hG hJ).symm.trans ((EqG.refl.times h).trans (inv_mul hG hJ))
/-- m over 3 -/
def three (m : Int) : Int := m * (m - 1) * (m - 2) / 6
theorem three_mul (m : Int) : m * (m - 1) * (m - 2) = 6 * three m := by
  have : (m * (m - 1) * (m - 2)) % 6 = 0 := by
    rw [Int.mul_emod, Int.mul_emod m]
    rcases (show m % 6 = 0 ∨ m % 6 = 1 ∨ m % 6 = 2 ∨ m % 6 = 3 ∨ m % 6 = 4 ∨ m % 6 = 5 by omega) with h | h | h | h | h | h
    · have h1 : (m - 1) % 6 = 5 := by omega
      have h2 : (m - 2) % 6 = 4 := by omega
      rw [h, h1, h2]; decide
    · have h1 : (m - 1) % 6 = 0 := by omega
      have h2 : (m - 2) % 6 = 5 := by omega
      rw [h, h1, h2]; decide
    · have h1 : (m - 1) % 6 = 1 := by omega
      have h2 : (m - 2) % 6 = 0 := by omega
      rw [h, h1, h2]; decide
    · have h1 : (m - 1) % 6 = 2 := by omega
      have h2 : (m - 2) % 6 = 1 := by omega
      rw [h, h1, h2]; decide
    · have h1 : (m - 1) % 6 = 3 := by omega
      have h2 : (m - 2) % 6 = 2 := by omega
      rw [h, h1, h2]; decide
    · have h1 : (m - 1) % 6 = 4 := by omega
      have h2 : (m - 2) % 6 = 3 := by omega
      rw [h, h1, h2]; decide
  unfold three
  omega
theorem two_mul (m : Int) : m * (m - 1) = 2 * two m := by
  have h := two_add (x := m) (y := 0)
  unfold two
  have : (m * (m - 1)) % 2 = 0 := by
    rw [Int.mul_emod]
    rcases (show m % 2 = 0 ∨ m % 2 = 1 by omega) with h | h
    · rw [h]; simp
    · have h2 : (m - 1) % 2 = 0 := by omega
      rw [h2]; simp
  omega
theorem two_succ (m : Int) : two (m + 1) = two m + m := by
  rw [two_add, show two 1 = 0 from rfl]; omega
theorem three_succ (m : Int) : three (m + 1) = three m + two m := by
  have h1 := three_mul m
  have h2 := three_mul (m + 1)
  have h3 := two_mul m
  have e : (m + 1) * (m + 1 - 1) * (m + 1 - 2) = m * (m - 1) * (m - 2) + 3 * (m * (m - 1)) := by
    rw [show m + 1 - 1 = m by omega, show m + 1 - 2 = m - 1 by omega, Int.add_mul, Int.one_mul, Int.add_mul]
    have a1 : m * m * (m - 1) = m * (m - 1) * m := by rw [Int.mul_assoc, Int.mul_assoc, Int.mul_comm m (m - 1)]
    have a2 : m * (m - 1) * (m - 2) = m * (m - 1) * m - m * (m - 1) * 2 := Int.mul_sub ..
    omega
  omega
theorem two_of_mul (m x : Int) : two (m * x) = m * two x + two m * (x * x) := by
  have h1 := two_mul (m * x)
  have h2 := two_mul x
  have h3 := two_mul m
  have e : m * x * (m * x - 1) = m * (x * (x - 1)) + m * (m - 1) * (x * x) := by
    simp only [Int.mul_sub, Int.sub_mul, Int.mul_one]
    have a1 : m * x * (m * x) = m * m * (x * x) := by simp only [Int.mul_assoc, Int.mul_comm, Int.mul_left_comm]
    have a2 : m * (x * x) = m * (x * x) := rfl
    omega
  have e2 : m * (x * (x - 1)) = 2 * (m * two x) := by rw [h2]; simp only [Int.mul_left_comm]
  have e3 : m * (m - 1) * (x * x) = 2 * (two m * (x * x)) := by rw [h3]; simp only [Int.mul_assoc]
  omega
section PP
variable {a : Nat → Int}
/-- the second and the third number of a power -/
def al (G : GD) (a : Nat → Int) (k : Nat) : Int := pT G k a a + pU G k a a + pV G k a a + pW G k a a + pX G k a a
def pV2 (G : GD) (m : Nat) (a : Nat → Int) : Int := sm (fun i => sm (fun j => DD G m j i j * a i * (a j * a j)) (gn G)) (gn G)
def be (G : GD) (a : Nat → Int) (k : Nat) : Int := pT G k (al G a) a + pV2 G k a + 2 * pW G k a a
def Q (G : GD) (a : Nat → Int) (m : Int) (k : Nat) : Int := a k * m + al G a k * two m + be G a k * three m
theorem part_low (hG : GOK G) {k : Nat} (hk : gw G k ≤ 2) {x y : Nat → Int} : pU G k x y = 0 ∧ pV G k x y = 0 ∧ pW G k x y = 0 ∧ pX G k x y = 0 ∧ pV2 G k x = 0 := by
  refine ⟨sm_zero (fun i _ => sm_zero (fun j _ => by rw [DD_0 hG (by omega)]; simp)), sm_zero (fun i _ => sm_zero (fun j _ => by rw [DD_0 hG (by omega)]; simp)), sm_zero (fun i _ => sm_zero (fun j _ => sm_zero (fun q _ => by rw [DD_0 hG (by omega)]; simp))), sm_zero (fun i _ => sm_zero (fun p _ => by
        split
        · exact sm_zero (fun j _ => by rw [DD_0 hG (by omega)]; simp)
        · rfl)), sm_zero (fun i _ => sm_zero (fun j _ => by rw [DD_0 hG (by omega)]; simp))⟩
theorem pT_low (hG : GOK G) {k : Nat} (hk : gw G k ≤ 1) {x y : Nat → Int} : pT G k x y = 0 := sm_zero (fun i _ => sm_zero (fun j _ => by
  by_cases h : tI G j i k = 0
  · rw [h]; simp
  · have h1 := tI_ne hG h
    have w1 := (hG.2.2.1 i (by omega)).1
    have w2 := (hG.2.2.1 j (by omega)).1
    omega))
theorem al_one (hG : GOK G) {k : Nat} (hk : gw G k ≤ 1) : al G a k = 0 := by
  have := part_low hG (k := k) (by omega) (x := a) (y := a)
  unfold al
  rw [pT_low hG hk, this.1, this.2.1, this.2.2.1, this.2.2.2.1]; rfl
theorem be_two (hG : GOK G) {k : Nat} (hk : gw G k ≤ 2) : be G a k = 0 := by
  have h := part_low hG hk (x := a) (y := a)
  unfold be
  rw [h.2.2.1, h.2.2.2.2]
  have : pT G k (al G a) a = 0 := sm_zero (fun i _ => sm_zero (fun j _ => by
    by_cases h : tI G j i k = 0
    · rw [h]; simp
    · have h1 := tI_ne hG h
      have w1 := (hG.2.2.1 i (by omega)).1
      rw [al_one hG (k := j) (by omega)]; simp))
  rw [this]; rfl
theorem Q_one (hG : GOK G) {m : Int} {k : Nat} (hk : gw G k ≤ 1) : Q G a m k = a k * m := by
  unfold Q; rw [al_one hG hk, be_two hG (by omega)]; simp
/-- one more -/
theorem Q_succ (hG : GOK G) {m : Int} : EqG G (mul G (Q G a m) a) (Q G a (m + 1)) := fun k hk => by
  rw [mul_eq hG hk]
  have eT : pT G k (Q G a m) a = m * pT G k a a + two m * pT G k (al G a) a := by
    unfold pT
    rw [sm_mul, sm_mul, sm_add]
    refine sm_congr (fun i _ => ?_)
    rw [sm_mul, sm_mul, sm_add]
    refine sm_congr (fun j _ => ?_)
    by_cases h : tI G j i k = 0
    · rw [h]; simp
    · have h1 := tI_ne hG h
      have w1 := (hG.2.2.1 i (by omega)).1
      have w4 := (hG.2.2.1 k hk).2
      unfold Q
      rw [be_two hG (k := j) (by omega), Int.zero_mul, Int.add_zero, Int.mul_add, Int.add_mul]
      congr 1
      · simp only [Int.mul_assoc, Int.mul_comm, Int.mul_left_comm]
      · simp only [Int.mul_assoc, Int.mul_comm, Int.mul_left_comm]
  have eU : pU G k (Q G a m) a = m * pU G k a a := by
    unfold pU
    rw [sm_mul]
    refine sm_congr (fun i _ => ?_)
    rw [sm_mul]
    refine sm_congr (fun j _ => ?_)
    rw [Int.mul_assoc, DD_congr hG (y := m * (a j * two (a i))) (fun _ _ h _ _ => by rw [Q_one hG (by omega), Int.mul_comm (a j), Int.mul_assoc])]
    simp only [Int.mul_assoc, Int.mul_comm, Int.mul_left_comm]
  have eV : pV G k (Q G a m) a = m * pV G k a a + two m * pV2 G k a := by
    unfold pV pV2
    rw [sm_mul, sm_mul, sm_add]
    refine sm_congr (fun i _ => ?_)
    rw [sm_mul, sm_mul, sm_add]
    refine sm_congr (fun j _ => ?_)
    rw [Int.mul_assoc, DD_congr hG (y := m * (a i * two (a j)) + two m * (a i * (a j * a j))) (fun _ _ h _ _ => by
      rw [Q_one hG (by omega), Int.mul_comm (a j) m, two_of_mul, Int.mul_add]
      simp only [Int.mul_assoc, Int.mul_comm, Int.mul_left_comm]), Int.mul_add]
    congr 1
    · simp only [Int.mul_assoc, Int.mul_comm, Int.mul_left_comm]
    · simp only [Int.mul_assoc, Int.mul_comm, Int.mul_left_comm]
  have eW : pW G k (Q G a m) a = m * pW G k a a + two m * (2 * pW G k a a) := by
    have e1 : pW G k (Q G a m) a = (m * m) * pW G k a a := by
      unfold pW
      rw [sm_mul]
      refine sm_congr (fun i _ => ?_)
      rw [sm_mul]
      refine sm_congr (fun j _ => ?_)
      rw [sm_mul]
      refine sm_congr (fun q _ => ?_)
      split
      · rw [Int.mul_assoc, Int.mul_assoc, DD_congr hG (y := m * m * (a j * (a q * a i))) (fun _ _ h h2 _ => by
          rw [Q_one hG (by omega), Q_one hG (by omega)]
          simp only [Int.mul_assoc, Int.mul_comm, Int.mul_left_comm])]
        simp only [Int.mul_assoc, Int.mul_comm, Int.mul_left_comm]
      · simp
    have e2 : m * m = m + 2 * two m := by rw [← two_mul, Int.mul_sub]; omega
    rw [e1, e2, Int.add_mul]
    congr 1
    simp only [Int.mul_assoc, Int.mul_comm, Int.mul_left_comm]
  have eX : pX G k (Q G a m) a = m * pX G k a a := by
    unfold pX
    rw [sm_mul]
    refine sm_congr (fun i _ => ?_)
    rw [sm_mul]
    refine sm_congr (fun p _ => ?_)
    split
    · rw [sm_mul]
      refine sm_congr (fun j _ => ?_)
      rw [Int.mul_assoc, Int.mul_assoc, DD_congr hG (y := m * (a j * (a p * a i))) (fun _ _ h _ _ => by
        rw [Q_one hG (by omega)]
        simp only [Int.mul_assoc, Int.mul_comm, Int.mul_left_comm])]
      simp only [Int.mul_assoc, Int.mul_comm, Int.mul_left_comm]
    · simp
  rw [eT, eU, eV, eW, eX]
  unfold Q
  rw [two_succ, three_succ]
  have f1 : al G a k * (two m + m) = al G a k * two m + (m * pT G k a a + m * pU G k a a + m * pV G k a a + m * pW G k a a + m * pX G k a a) := by
    rw [Int.mul_add]
    congr 1
    unfold al
    rw [Int.mul_comm]
    simp only [Int.mul_add]
  have f2 : be G a k * (three m + two m) = be G a k * three m + (two m * pT G k (al G a) a + two m * pV2 G k a + two m * (2 * pW G k a a)) := by
    rw [Int.mul_add]
    congr 1
    unfold be
    simp only [Int.add_mul, Int.mul_comm, Int.mul_assoc, Int.mul_left_comm]
  have f3 : a k * (m + 1) = a k * m + a k := by rw [Int.mul_add, Int.mul_one]
  omega
theorem Q_0 {k : Nat} : Q G a 0 k = 0 := by
  unfold Q; rw [show two 0 = 0 from rfl, show three 0 = 0 from rfl]; simp
theorem Q_1 {k : Nat} : Q G a 1 k = a k := by
  unfold Q; rw [show two 1 = 0 from rfl, show three 1 = 0 from rfl]; simp
theorem pw_Q (hG : GOK G) : ∀ n : Nat, EqG G (pw G a n) (Q G a n) := by
  intro n
  induction n with
  | zero => exact fun k _ => by show (0 : Int) = Q G a 0 k; rw [Q_0]
  | succ n ih =>
    have := (ih.times (EqG.refl (a := a))).trans (Q_succ hG (m := (n : Int)))
    exact this
theorem pw_succ' (hG : GOK G) (hJ : Jac G) : ∀ n : Nat, EqG G (mul G a (pw G a n)) (pw G a (n + 1)) := by
  intro n
  induction n with
  | zero => exact (mul_O hG).trans (O_mul hG).symm
  | succ n ih => exact (massoc hG hJ).symm.trans (ih.times EqG.refl)
/-- powers below 0 -/
theorem pw_neg (hG : GOK G) (hJ : Jac G) : ∀ n : Nat, EqG G (pw G (inv G a) n) (Q G a (-(n : Int))) := by
  intro n
  induction n with
  | zero => exact fun k _ => by show (0 : Int) = Q G a 0 k; rw [Q_0]
  | succ n ih =>
    have h1 := Q_succ hG (a := a) (m := -((n : Int) + 1))
    rw [show -((n : Int) + 1) + 1 = -(n : Int) by omega] at h1
    have h2 : EqG G (mul G (pw G (inv G a) (n + 1)) a) (pw G (inv G a) n) := (massoc hG hJ).trans ((EqG.refl.times (inv_mul hG hJ)).trans (mul_O hG))
    exact mul_right_cancel hG hJ (h2.trans (ih.trans h1.symm))
theorem raises_Q (hG : GOK G) (hJ : Jac G) {z : Int} : EqG G (pw G (if z < 0 then inv G a else a) z.natAbs) (Q G a z) := by
  by_cases h : z < 0
  · rw [if_pos h]
    have := pw_neg hG hJ (a := a) z.natAbs
    rwa [show -(z.natAbs : Int) = z by omega] at this
  · rw [if_neg h]
    have := pw_Q hG (a := a) z.natAbs
    rwa [show (z.natAbs : Int) = z by omega] at this
/-- the numbers by which the class tells a power -/
theorem Q_numbers (hG : GOK G) {k : Nat} (hk : k < gn G) : mul G a a k - 2 * a k = al G a k ∧ mul G (mul G a a) a k - 3 * mul G a a k + 3 * a k = be G a k := by
  have h1 : EqG G (mul G a a) (Q G a 2) := (EqG.times (fun m _ => Q_1.symm) EqG.refl).trans (Q_succ hG (m := 1))
  have h2 : EqG G (mul G (mul G a a) a) (Q G a 3) := (h1.times EqG.refl).trans (Q_succ hG (m := 2))
  rw [h1 k hk, h2 k hk]
  unfold Q
  rw [show two 2 = 1 from rfl, show two 3 = 3 from rfl, show three 2 = 0 from rfl, show three 3 = 1 from rfl]
  omega
end PP
end PO
