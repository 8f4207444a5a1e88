/-! who multiplies first does not matter, where the tails keep Jacobi's law -/
section AS
variable {G : GD}
def Jac (G : GD) : Prop := ∀ i l j m, i < l → l < j → j < gn G → m < gn G → DD G m j l i + DD G m l i j = DD G m j i l
theorem two_add {x y : Int} : two (x + y) = two x + two y + x * y := by
  have h : ∀ z : Int, z * (z - 1) = 2 * two z := fun z => by
    unfold two
    have : (z * (z - 1)) % 2 = 0 := by
      rw [Int.mul_emod]
      rcases (show z % 2 = 0 ∨ z % 2 = 1 by omega) with h | h
      · rw [h]; simp
      · have h2 : (z - 1) % 2 = 0 := by omega
        rw [h2]; simp
    omega
  have h1 := h x
  have h2 := h y
  have h3 := h (x + y)
  have e : (x + y) * (x + y - 1) = x * (x - 1) + y * (y - 1) + 2 * (x * y) := by
    simp only [Int.mul_sub, Int.add_mul, Int.mul_add, Int.mul_one]
    have := Int.mul_comm y x
    omega
  omega
theorem sm_delta {g : Nat → Int} {n x : Nat} (h : x < n) : sm (fun y => if x = y then g y else 0) n = g x := by
  induction n with
  | zero => omega
  | succ n ih =>
    simp only [sm]
    by_cases h1 : x = n
    · subst h1
      rw [if_pos rfl, sm_zero (fun k hk => if_neg (by omega)), Int.zero_add]
    · rw [if_neg h1, Int.add_zero, ih (by omega)]
/-- the parts of a product -/
def pT (G : GD) (m : Nat) (a b : Nat → Int) : Int := sm (fun i => sm (fun j => tI G j i m * a j * b i) (gn G)) (gn G)
def pU (G : GD) (m : Nat) (a b : Nat → Int) : Int := sm (fun i => sm (fun j => DD G m j i i * a j * two (b i)) (gn G)) (gn G)
def pV (G : GD) (m : Nat) (a b : Nat → Int) : Int := sm (fun i => sm (fun j => DD G m j i j * b i * two (a j)) (gn G)) (gn G)
def pW (G : GD) (m : Nat) (a b : Nat → Int) : Int := sm (fun i => sm (fun j => sm (fun q => if j < q then DD G m j i q * a j * a q * b i else 0) (gn G)) (gn G)) (gn G)
def pX (G : GD) (m : Nat) (a b : Nat → Int) : Int := sm (fun i => sm (fun p => if p < i then sm (fun j => DD G m j p i * a j * b p * b i) (gn G) else 0) (gn G)) (gn G)
theorem mul_eq (hG : GOK G) {a b : Nat → Int} {m : Nat} (hm : m < gn G) : mul G a b m = a m + b m + pT G m a b + pU G m a b + pV G m a b + pW G m a b + pX G m a b := by
  unfold mul
  rw [mulU_eq hG (gn G) (Nat.le_refl _)]
  unfold prodU
  rw [if_pos hm, ← sm_add]
  have e : sm (fun i => addL G a i (b i) m) (gn G) = pT G m a b + pU G m a b + pV G m a b + pW G m a b := by
    unfold addL pT pU pV pW
    rw [sm_add, sm_add, sm_add]
    refine sm_congr (fun i _ => ?_)
    rw [sm_add, sm_add, sm_add]
    exact sm_congr (fun j _ => by omega)
  rw [e]
  unfold pX
  omega
/-- what hangs on weights one alone -/
theorem DD_congr (hG : GOK G) {m j i q : Nat} {x y : Int} (h : i < j → gw G i = 1 → gw G j = 1 → gw G q = 1 → j < gn G → x = y) : DD G m j i q * x = DD G m j i q * y := by
  by_cases h1 : DD G m j i q = 0
  · rw [h1, Int.zero_mul, Int.zero_mul]
  · have h2 : i < j ∧ gw G i = 1 ∧ gw G j = 1 ∧ gw G q = 1 ∧ gw G m = 3 ∧ j < gn G := Classical.byContradiction (fun z => h1 (DD_0 hG z))
    rw [h h2.1 h2.2.1 h2.2.2.1 h2.2.2.2.1 h2.2.2.2.2.2]
theorem gn_of_one (hG : GOK G) {q : Nat} (h : gw G q = 1) : q < gn G := by
  refine Nat.lt_of_not_le (fun z => ?_)
  have := hG.2.2.2.2.1 q z
  omega
def S3 (n : Nat) (f : Nat → Nat → Nat → Int) : Int := sm (fun x => sm (fun y => sm (fun z => f x y z) n) n) n
theorem S3_add {n : Nat} {f g : Nat → Nat → Nat → Int} : S3 n f + S3 n g = S3 n (fun x y z => f x y z + g x y z) := by
  unfold S3
  rw [sm_add]
  refine sm_congr (fun x _ => ?_)
  rw [sm_add]
  refine sm_congr (fun y _ => ?_)
  rw [sm_add]
theorem S3_congr {n : Nat} {f g : Nat → Nat → Nat → Int} (h : ∀ x y z, x < n → y < n → z < n → f x y z = g x y z) : S3 n f = S3 n g :=
  sm_congr (fun x hx => sm_congr (fun y hy => sm_congr (fun z hz => h x y z hx hy hz)))
theorem S3_rot {n : Nat} {f : Nat → Nat → Nat → Int} : S3 n f = S3 n (fun x y z => f z x y) := by
  unfold S3
  rw [sm_swap]
  refine sm_congr (fun y _ => ?_)
  rw [sm_swap]
theorem S3_swap12 {n : Nat} {f : Nat → Nat → Nat → Int} : S3 n f = S3 n (fun x y z => f y x z) := sm_swap
theorem S3_swap {n : Nat} {f : Nat → Nat → Nat → Int} : S3 n f = S3 n (fun x y z => f x z y) := sm_congr (fun x _ => sm_swap)
section MC
variable {a b c : Nat → Int} {m : Nat}
theorem pT_left (hG : GOK G) (hm : m < gn G) : pT G m (mul G a b) c = pT G m a c + pT G m b c + S3 (gn G) (fun x y z => DD G m x y z * (a x * b y * c z)) := by
  have hlow : ∀ i j, j < gn G → tI G j i m * mul G a b j * c i = tI G j i m * a j * c i + tI G j i m * b j * c i + sm (fun y => sm (fun x => tI G x y j * tI G j i m * (a x * b y * c i)) (gn G)) (gn G) := by
    intro i j hj
    by_cases h : tI G j i m = 0
    · rw [h, sm_zero (fun y _ => sm_zero (fun x _ => by simp))]; simp
    · have h1 := tI_ne hG h
      have w1 := (hG.2.2.1 i (by omega)).1
      have w4 := (hG.2.2.1 m hm).2
      have z1 : pU G j a b = 0 := sm_zero (fun i _ => sm_zero (fun j _ => by rw [DD_0 hG (by omega)]; simp))
      have z2 : pV G j a b = 0 := sm_zero (fun i _ => sm_zero (fun j _ => by rw [DD_0 hG (by omega)]; simp))
      have z3 : pW G j a b = 0 := sm_zero (fun i _ => sm_zero (fun j _ => sm_zero (fun q _ => by rw [DD_0 hG (by omega)]; simp)))
      have z4 : pX G j a b = 0 := sm_zero (fun i _ => sm_zero (fun p _ => by
        split
        · exact sm_zero (fun j _ => by rw [DD_0 hG (by omega)]; simp)
        · rfl))
      rw [mul_eq hG hj, z1, z2, z3, z4, Int.add_zero, Int.add_zero, Int.add_zero, Int.add_zero, Int.mul_add, Int.mul_add, Int.add_mul, Int.add_mul]
      congr 1
      unfold pT
      rw [sm_mul, sm_mulr]
      refine sm_congr (fun y _ => ?_)
      rw [sm_mul, sm_mulr]
      refine sm_congr (fun x _ => ?_)
      simp only [Int.mul_assoc, Int.mul_comm, Int.mul_left_comm]
  unfold pT
  rw [sm_congr (fun i _ => sm_congr (hlow i))]
  have e : ∀ i, sm (fun j => tI G j i m * a j * c i + tI G j i m * b j * c i + sm (fun y => sm (fun x => tI G x y j * tI G j i m * (a x * b y * c i)) (gn G)) (gn G)) (gn G) = sm (fun j => tI G j i m * a j * c i) (gn G) + sm (fun j => tI G j i m * b j * c i) (gn G) + sm (fun y => sm (fun x => DD G m x y i * (a x * b y * c i)) (gn G)) (gn G) := by
    intro i
    rw [← sm_add, ← sm_add]
    congr 1
    rw [sm_swap]
    refine sm_congr (fun y _ => ?_)
    rw [sm_swap]
    refine sm_congr (fun x _ => ?_)
    unfold DD
    rw [sm_mulr]
  rw [sm_congr (fun i _ => e i), ← sm_add, ← sm_add]
  congr 1
  have e2 : sm (fun i => sm (fun y => sm (fun x => DD G m x y i * (a x * b y * c i)) (gn G)) (gn G)) (gn G) = S3 (gn G) (fun z y x => DD G m x y z * (a x * b y * c z)) := rfl
  rw [e2, S3_rot, S3_rot, S3_swap]
/-- weight one adds -/
theorem m1 (hG : GOK G) {j : Nat} (hw : gw G j = 1) : mul G a b j = a j + b j := mul_one hG (by omega) (gn_of_one hG hw)
theorem pT_right (hG : GOK G) (hm : m < gn G) : pT G m a (mul G b c) = pT G m a b + pT G m a c := by
  unfold pT
  rw [sm_add]
  refine sm_congr (fun i _ => ?_)
  rw [sm_add]
  refine sm_congr (fun j _ => ?_)
  by_cases h : tI G j i m = 0
  · rw [h]; simp
  · have h1 := tI_ne hG h
    have w4 := (hG.2.2.1 m hm).2
    have w5 := hG.2.2.2.1 i j (by omega) (by omega)
    have w6 := (hG.2.2.1 i (by omega)).1
    rw [m1 hG (show gw G i = 1 by omega), Int.mul_add]
theorem pU_left (hG : GOK G) : pU G m (mul G a b) c = pU G m a c + pU G m b c := by
  unfold pU
  rw [sm_add]
  refine sm_congr (fun i _ => ?_)
  rw [sm_add]
  refine sm_congr (fun j _ => ?_)
  rw [Int.mul_assoc, DD_congr hG (fun _ _ h _ _ => by rw [m1 hG h]), ← Int.mul_assoc, Int.mul_add, Int.add_mul]
theorem pU_right (hG : GOK G) : pU G m a (mul G b c) = pU G m a b + pU G m a c + S3 (gn G) (fun x y z => if y = z then DD G m x y z * (a x * b y * c z) else 0) := by
  have e : S3 (gn G) (fun x y z => if y = z then DD G m x y z * (a x * b y * c z) else 0) = sm (fun i => sm (fun j => DD G m j i i * (a j * b i * c i)) (gn G)) (gn G) := by
    unfold S3
    rw [sm_swap]
    refine sm_congr (fun i hi => ?_)
    refine sm_congr (fun j _ => ?_)
    exact sm_delta (g := fun z => DD G m j i z * (a j * b i * c z)) hi
  rw [e]
  unfold pU
  rw [sm_add, sm_add]
  refine sm_congr (fun i _ => ?_)
  rw [sm_add, sm_add]
  refine sm_congr (fun j _ => ?_)
  rw [Int.mul_assoc, DD_congr hG (y := a j * two (b i) + a j * two (c i) + a j * b i * c i) (fun _ h _ _ _ => by rw [m1 hG h, two_add, Int.mul_add, Int.mul_add, ← Int.mul_assoc (a j) (b i)]), Int.mul_add, Int.mul_add]
  simp only [Int.mul_assoc]
theorem pV_left (hG : GOK G) : pV G m (mul G a b) c = pV G m a c + pV G m b c + S3 (gn G) (fun x y z => if x = y then DD G m x z y * (a x * b y * c z) else 0) := by
  have e : S3 (gn G) (fun x y z => if x = y then DD G m x z y * (a x * b y * c z) else 0) = sm (fun i => sm (fun j => DD G m j i j * (a j * b j * c i)) (gn G)) (gn G) := by
    unfold S3
    rw [sm_swap (n := gn G) (m := gn G) (f := fun i j => DD G m j i j * (a j * b j * c i))]
    refine sm_congr (fun j hj => ?_)
    rw [sm_swap]
    refine sm_congr (fun i _ => ?_)
    exact sm_delta (g := fun y => DD G m j i y * (a j * b y * c i)) hj
  rw [e]
  unfold pV
  rw [sm_add, sm_add]
  refine sm_congr (fun i _ => ?_)
  rw [sm_add, sm_add]
  refine sm_congr (fun j _ => ?_)
  rw [Int.mul_assoc, DD_congr hG (y := c i * two (a j) + c i * two (b j) + a j * b j * c i) (fun _ _ h _ _ => by rw [m1 hG h, two_add, Int.mul_add, Int.mul_add, Int.mul_comm (c i) (a j * b j)]), Int.mul_add, Int.mul_add]
  simp only [Int.mul_assoc]
theorem pV_right (hG : GOK G) : pV G m a (mul G b c) = pV G m a b + pV G m a c := by
  unfold pV
  rw [sm_add]
  refine sm_congr (fun i _ => ?_)
  rw [sm_add]
  refine sm_congr (fun j _ => ?_)
  rw [Int.mul_assoc, DD_congr hG (y := b i * two (a j) + c i * two (a j)) (fun _ h _ _ _ => by rw [m1 hG h, Int.add_mul]), Int.mul_add, Int.mul_assoc, Int.mul_assoc]
theorem pW_left (hG : GOK G) : pW G m (mul G a b) c = pW G m a c + pW G m b c + S3 (gn G) (fun x y z => (if x < y then DD G m x z y * (a x * b y * c z) else 0) + (if y < x then DD G m y z x * (a x * b y * c z) else 0)) := by
  rw [← S3_add]
  have e1 : S3 (gn G) (fun x y z => if x < y then DD G m x z y * (a x * b y * c z) else 0) = sm (fun i => sm (fun j => sm (fun q => if j < q then DD G m j i q * (a j * b q * c i) else 0) (gn G)) (gn G)) (gn G) := (S3_rot (f := fun i j q => if j < q then DD G m j i q * (a j * b q * c i) else 0)).symm
  have e2 : S3 (gn G) (fun x y z => if y < x then DD G m y z x * (a x * b y * c z) else 0) = sm (fun i => sm (fun j => sm (fun q => if j < q then DD G m j i q * (a q * b j * c i) else 0) (gn G)) (gn G)) (gn G) := by
    have h1 := S3_rot (n := gn G) (f := fun i j q => if j < q then DD G m j i q * (a q * b j * c i) else 0)
    have h2 := S3_swap12 (n := gn G) (f := fun x y z => if x < y then DD G m x z y * (a y * b x * c z) else 0)
    exact (h1.trans h2).symm
  rw [e1, e2]
  unfold pW
  rw [sm_add, sm_add, sm_add]
  refine sm_congr (fun i _ => ?_)
  rw [sm_add, sm_add, sm_add]
  refine sm_congr (fun j _ => ?_)
  rw [sm_add, sm_add, sm_add]
  refine sm_congr (fun q _ => ?_)
  by_cases h : j < q
  · simp only [if_pos h]
    have e : DD G m j i q * mul G a b j * mul G a b q * c i = DD G m j i q * (a j * a q * c i + b j * b q * c i + (a j * b q * c i + a q * b j * c i)) := by
      rw [Int.mul_assoc, Int.mul_assoc]
      refine DD_congr hG (fun _ _ h0 h2 _ => ?_)
      rw [m1 hG h0, m1 hG h2]
      simp only [Int.add_mul, Int.mul_add, Int.mul_assoc, Int.mul_comm, Int.mul_left_comm]
      omega
    rw [e, Int.mul_add, Int.mul_add, Int.mul_add]
    simp only [Int.mul_assoc]
  · simp only [if_neg h]; rfl
theorem pW_right (hG : GOK G) : pW G m a (mul G b c) = pW G m a b + pW G m a c := by
  unfold pW
  rw [sm_add]
  refine sm_congr (fun i _ => ?_)
  rw [sm_add]
  refine sm_congr (fun j _ => ?_)
  rw [sm_add]
  refine sm_congr (fun q _ => ?_)
  by_cases h : j < q
  · simp only [if_pos h]
    rw [← Int.mul_add, Int.mul_assoc, Int.mul_assoc, Int.mul_assoc (DD G m j i q), Int.mul_assoc (DD G m j i q)]
    refine DD_congr hG (fun _ h0 _ _ _ => ?_)
    rw [m1 hG h0, Int.mul_assoc]
  · simp only [if_neg h]; rfl
theorem pX_left (hG : GOK G) : pX G m (mul G a b) c = pX G m a c + pX G m b c := by
  unfold pX
  rw [sm_add]
  refine sm_congr (fun i _ => ?_)
  rw [sm_add]
  refine sm_congr (fun p _ => ?_)
  by_cases h : p < i
  · simp only [if_pos h]
    rw [sm_add]
    refine sm_congr (fun j _ => ?_)
    simp only [Int.mul_assoc]
    rw [← Int.mul_add, ← Int.add_mul]
    refine DD_congr hG (fun _ _ h1 _ _ => ?_)
    rw [m1 hG h1]
  · simp only [if_neg h]; rfl
theorem pX_right (hG : GOK G) : pX G m a (mul G b c) = pX G m a b + pX G m a c + S3 (gn G) (fun x y z => (if y < z then DD G m x y z * (a x * b y * c z) else 0) + (if z < y then DD G m x z y * (a x * b y * c z) else 0)) := by
  rw [← S3_add]
  have e1 : S3 (gn G) (fun x y z => if y < z then DD G m x y z * (a x * b y * c z) else 0) = sm (fun i => sm (fun p => sm (fun j => if p < i then DD G m j p i * (a j * b p * c i) else 0) (gn G)) (gn G)) (gn G) := by
    have h1 := S3_rot (n := gn G) (f := fun i j p => if p < i then DD G m j p i * (a j * b p * c i) else 0)
    have h2 := S3_swap (n := gn G) (f := fun i p j => if p < i then DD G m j p i * (a j * b p * c i) else 0)
    exact (h2.trans h1).symm
  have e2 : S3 (gn G) (fun x y z => if z < y then DD G m x z y * (a x * b y * c z) else 0) = sm (fun i => sm (fun p => sm (fun j => if p < i then DD G m j p i * (a j * b i * c p) else 0) (gn G)) (gn G)) (gn G) := by
    have h1 := S3_rot (n := gn G) (f := fun i p j => if p < i then DD G m j p i * (a j * b i * c p) else 0)
    have h2 := S3_rot (n := gn G) (f := fun z x y => if x < z then DD G m y x z * (a y * b z * c x) else 0)
    have h3 := S3_rot (n := gn G) (f := fun x y z => if x < z then DD G m y x z * (a y * b z * c x) else 0)
    have h4 := S3_rot (n := gn G) (f := fun x y z => if x < z then DD G m y x z * (a y * b z * c x) else 0)
    exact (h1.trans (S3_rot (n := gn G) (f := fun x y z => if x < z then DD G m y x z * (a y * b z * c x) else 0))).symm
  rw [e1, e2]
  unfold pX
  rw [sm_add, sm_add, sm_add]
  refine sm_congr (fun i _ => ?_)
  rw [sm_add, sm_add, sm_add]
  refine sm_congr (fun p _ => ?_)
  rw [sm_add]
  by_cases h : p < i
  · simp only [if_pos h]
    rw [sm_add, sm_add]
    refine sm_congr (fun j _ => ?_)
    have e : DD G m j p i * a j * mul G b c p * mul G b c i = DD G m j p i * (a j * b p * b i + a j * c p * c i + (a j * b p * c i + a j * b i * c p)) := by
      rw [Int.mul_assoc, Int.mul_assoc]
      refine DD_congr hG (fun _ h0 _ h2 _ => ?_)
      rw [m1 hG h0, m1 hG h2]
      simp only [Int.add_mul, Int.mul_add, Int.mul_assoc, Int.mul_comm, Int.mul_left_comm]
      omega
    rw [e, Int.mul_add, Int.mul_add, Int.mul_add]
    simp only [Int.mul_assoc]
  · simp only [if_neg h]
    rw [sm_zero (f := fun k => (0 : Int) + 0) (fun j _ => rfl)]
    rfl
theorem mul_assoc' (hG : GOK G) (hJ : Jac G) (hm : m < gn G) : mul G (mul G a b) c m = mul G a (mul G b c) m := by
  rw [mul_eq hG hm (a := mul G a b), mul_eq hG hm (a := a) (b := mul G b c), mul_eq hG hm, mul_eq hG hm (a := b),
    pT_left hG hm, pT_right hG hm, pU_left hG, pU_right hG, pV_left hG, pV_right hG, pW_left hG, pW_right hG, pX_left hG, pX_right hG]
  have key : S3 (gn G) (fun x y z => DD G m x y z * (a x * b y * c z)) + S3 (gn G) (fun x y z => if x = y then DD G m x z y * (a x * b y * c z) else 0) + S3 (gn G) (fun x y z => (if x < y then DD G m x z y * (a x * b y * c z) else 0) + (if y < x then DD G m y z x * (a x * b y * c z) else 0)) = S3 (gn G) (fun x y z => if y = z then DD G m x y z * (a x * b y * c z) else 0) + S3 (gn G) (fun x y z => (if y < z then DD G m x y z * (a x * b y * c z) else 0) + (if z < y then DD G m x z y * (a x * b y * c z) else 0)) := by
    rw [S3_add, S3_add, S3_add]
    refine S3_congr (fun x y z hx hy hz => ?_)
    have z0 : ∀ j i q, ¬ i < j → DD G m j i q = 0 := fun j i q h => DD_0 hG (fun h1 => h h1.1)
    rcases Nat.lt_trichotomy y z with h | h | h
    · have f : (if x = y then DD G m x z y * (a x * b y * c z) else 0) = 0 := by
        split
        · rw [z0 x z y (by omega), Int.zero_mul]
        · rfl
      have f2 : (if x < y then DD G m x z y * (a x * b y * c z) else 0) = 0 := by
        split
        · rw [z0 x z y (by omega), Int.zero_mul]
        · rfl
      have f3 : (if y < x then DD G m y z x * (a x * b y * c z) else 0) = 0 := by
        split
        · rw [z0 y z x (by omega), Int.zero_mul]
        · rfl
      rw [f, f2, f3, if_neg (by omega : ¬ y = z), if_pos h, if_neg (by omega : ¬ z < y)]
      omega
    · subst h
      by_cases h1 : y < x
      · rw [if_neg (by omega), if_neg (by omega), if_pos h1, if_pos rfl, z0 y y x (by omega)]; simp
      · rw [z0 x y y h1]; simp [h1]
    · by_cases h1 : y < x
      · rw [if_neg (by omega), if_neg (by omega), if_pos h1, if_neg (by omega), if_neg (by omega), if_pos h, ← hJ z y x m h h1 hx hm, Int.add_mul]
        omega
      · rw [z0 x y z h1, if_neg h1, if_neg (by omega : ¬ y = z), if_neg (by omega : ¬ y < z), if_pos h]
        by_cases h2 : x = y
        · rw [if_pos h2, if_neg (by omega)]; simp
        · rw [if_neg h2, if_pos (by omega)]; simp
  omega
theorem mul_assoc (hG : GOK G) (hJ : Jac G) (a b c : Nat → Int) (m : Nat) (hm : m < gn G) : mul G (mul G a b) c m = mul G a (mul G b c) m := mul_assoc' hG hJ hm
end MC
end AS

