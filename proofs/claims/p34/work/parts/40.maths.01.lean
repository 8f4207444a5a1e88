section
/-! the class's arithmetic, put together -/
section CQ
variable {G : GD} {σ : Mem}
theorem e_cL6 {α : Type} {a b : Nat} {f : Mem → Option α} (ha : ln a = 6) (hb : ln b = 6) : cL σ a 0 b 0 6 f = f (cpL σ a b 0 0 6) := by
  unfold cL
  have h6 : (6 : Int32).toNatClampNeg = 6 := rfl
  have h0 : (0 : Int32).toNatClampNeg = 0 := rfl
  rw [h6, h0, ha, hb, if_pos ⟨⟨by decide, by decide, by decide⟩, by omega, by omega⟩]
theorem c_copy {a b : Nat} {A : Nat → Int} (ha : ln a = 6) (hb : ln b = 6) (hA : H6 σ a A) :
    ∃ τ, f_X0_copy σ a b = some τ ∧ OL (fun x => x = b) σ τ ∧ H6 τ b A := by
  unfold f_X0_copy
  rw [e_cL6 ha hb]
  refine ⟨_, rfl, ⟨rfl, fun x hx => ?_⟩, fun k hk => ?_⟩
  · funext y
    simp only [cpL]
    rw [if_neg hx]
  · have : (cpL σ a b 0 0 6).2 b k = σ.2 a k := by
      simp only [cpL, if_true, va_cpy, Nat.zero_add, Nat.sub_zero]
      rw [if_pos ⟨Nat.zero_le _, hk⟩]
    rw [this]; exact hA k hk
theorem c_areSame {a b : Nat} {A B : Nat → Int} (ha : ln a = 6) (hb : ln b = 6) (hA : H6 σ a A) (hB : H6 σ b B) {r : Bool} (hr : r = true ↔ ∀ k, k < 6 → oi (A k) = oi (B k)) :
    f_X0_areSame σ a b = some r := by
  unfold f_X0_areSame
  refine loop_all 6 (fun k => oi (A k) = oi (B k)) (fun k => inferInstance) (fun k hk => ?_) ?_ _ hr
  · show l_X0_areSame_2 _ _ _ _ = _
    unfold l_X0_areSame_2
    rw [i32_6, if_neg (i_nle hk (by omega)), e_gL ha hk (by omega), e_gL hb hk (by omega), hA k hk, hB k hk, i32_1, i32_add]
    split <;> rfl
  · show l_X0_areSame_2 _ _ _ _ = _
    unfold l_X0_areSame_2
    rw [i32_6, if_pos (i_le (Nat.le_refl _) (by omega))]
theorem c_isWithin {a : Nat} {A : Nat → Int} {g : Int64} (ha : ln a = 6) (hA : H6 σ a A) {r : Bool} (hr : r = true ↔ ∀ k, k < 6 → -g ≤ oi (A k) ∧ oi (A k) ≤ g) :
    f_X0_isWithin σ a g = some r := by
  unfold f_X0_isWithin
  refine loop_all 6 (fun k => -g ≤ oi (A k) ∧ oi (A k) ≤ g) (fun k => inferInstance) (fun k hk => ?_) ?_ _ hr
  · show l_X0_isWithin_2 _ _ _ _ = _
    unfold l_X0_isWithin_2
    rw [i32_6, if_neg (i_nle hk (by omega)), e_gL ha hk (by omega), e_gL ha hk (by omega), hA k hk, i32_1, i32_add]
    by_cases h1 : oi (A k) < -g
    · rw [if_pos h1, if_neg (fun q => Int64.not_le.mpr h1 q.1)]
    · rw [if_neg h1]
      by_cases h2 : oi (A k) ≤ g
      · rw [if_pos h2, if_pos ⟨Int64.not_lt.mp h1, h2⟩]
      · rw [if_neg h2, if_neg (fun q => h2 q.2)]
  · show l_X0_isWithin_2 _ _ _ _ = _
    unfold l_X0_isWithin_2
    rw [i32_6, if_pos (i_le (Nat.le_refl _) (by omega))]
/-- the class looks at six exponents, the reference at those of the group -/
theorem all6 (hG : GOK G) {A : Nat → Int} {p : Int → Prop} (hp : p 0) (zA : Z6 G A) : (∀ k, k < 6 → p (A k)) ↔ (∀ k, k < gn G → p (A k)) := by
  have hn := hG.2.1
  refine ⟨fun h k hk => h k (by omega), fun h k hk => ?_⟩
  by_cases h1 : k < gn G
  · exact h k h1
  · rw [zA k (by omega) hk]; exact hp
theorem c_isElement (hG : GOK G) {a : Nat} {A : Nat → Int} (ha : ln a = 6) (hA : H6 σ a A) (zA : Z6 G A) : f_X0_isWithin σ a 999 = some (isEl G A) := by
  refine c_isWithin ha hA ?_
  unfold isEl
  rw [decide_eq_true_eq]
  exact (all6 hG (p := fun x => -999 ≤ oi x ∧ oi x ≤ 999) (by decide) zA).symm
theorem le_0 {x : Int64} : (-0 ≤ x ∧ x ≤ 0) ↔ x = 0 := by
  constructor
  · intro h
    exact Int64.le_antisymm h.2 h.1
  · intro h; subst h; decide
theorem c_isOne (hG : GOK G) {a : Nat} {A : Nat → Int} (ha : ln a = 6) (hA : H6 σ a A) (zA : Z6 G A) : f_X0_isOne σ a = some (isO G A) := by
  unfold f_X0_isOne
  rw [c_isWithin (g := 0) (r := isO G A) ha hA ?_, e_bs]
  unfold isO
  rw [decide_eq_true_eq]
  have h1 : (∀ k, k < 6 → -0 ≤ oi (A k) ∧ oi (A k) ≤ 0) ↔ (∀ k, k < 6 → oi (A k) = 0) := ⟨fun h k hk => le_0.mp (h k hk), fun h k hk => le_0.mpr (h k hk)⟩
  exact (h1.trans (all6 hG (p := fun x => oi x = 0) (by decide) zA)).symm
theorem c_same (hG : GOK G) {a b : Nat} {A B : Nat → Int} (ha : ln a = 6) (hb : ln b = 6) (hA : H6 σ a A) (hB : H6 σ b B) (zA : Z6 G A) (zB : Z6 G B) : f_X0_areSame σ a b = some (areS G A B) := by
  have hn := hG.2.1
  refine c_areSame ha hb hA hB ?_
  unfold areS
  rw [decide_eq_true_eq]
  refine ⟨fun h k hk => ?_, fun h k hk => h k (by omega)⟩
  by_cases h1 : k < gn G
  · exact h k h1
  · rw [zA k (by omega) hk, zB k (by omega) hk]
theorem Z6.muls (hG : GOK G) {A B : Nat → Int} (zA : Z6 G A) : Z6 G (mul G A B) := fun k h1 h2 => by
  rw [mul_beyond hG h1]; exact zA k h1 h2
theorem Z6.invs {A : Nat → Int} : Z6 G (inv G A) := fun k h1 _ => inv_beyond _ h1
theorem SB.w1 (hG : GOK G) {B : Int} {A : Nat → Int} (h : SB G B A) (hB : B ≤ 2 ^ 31) : W1 G A := fun k hk hw => by
  have := h k (gn_of_one hG hw) hw
  exact ⟨by omega, by omega⟩
theorem ns2 {p q x : Nat} (hp : notSum p) (hq : notSum q) (h : x = p ∨ x = q) : notSum x := by
  rcases h with h | h
  · rw [h]; exact hp
  · rw [h]; exact hq
theorem c_commutator (hG : GOK G) (hP : PolyOK G σ) {out a b : Nat} {A B : Nat → Int} (hout : ln out = 6) (ha : ln a = 6) (hb : ln b = 6) (hA : H6 σ a A) (hB : H6 σ b B) (ho : out ≠ 73) (ho2 : out ≠ 79) (hos : notSum out) (ha3 : a ≠ 73 ∧ a ≠ 78 ∧ a ≠ 79) (hb3 : b ≠ 73 ∧ b ≠ 78 ∧ b ≠ 79) {M : Int} (hM : 8 * M ≤ 2 ^ 31) (hM0 : 0 ≤ M) (sA : SB G M A) (sB : SB G M B) (zA : Z6 G A) (zB : Z6 G B) :
    ∃ τ, f_X0_commutator σ out a b = some τ ∧ OL (fun x => x = 73 ∨ x = 78 ∨ x = 79 ∨ x = out) σ τ ∧ H6 τ out (mul G (inv G (mul G B A)) (mul G A B)) := by
  have n73 : notSum 73 := fun k hk => by omega
  have n78 : notSum 78 := fun k hk => by omega
  have n79 : notSum 79 := fun k hk => by omega
  unfold f_X0_commutator
  obtain ⟨τ1, e1, o1, r1⟩ := c_product hG hP (out := 79) ln_79 ha hb hA hB (by omega) n79 ha3.1 hb3.1 (sA.w1 hG (by omega)) (sB.w1 hG (by omega)) zA
  rw [e1, e_bs]
  have P1 : PolyOK G τ1 := hP.keep o1 (fun x hx => ns2 n73 n79 hx)
  have A1 : H6 τ1 a A := hA.keep o1 (by omega)
  have B1 : H6 τ1 b B := hB.keep o1 (by omega)
  obtain ⟨τ2, e2, o2, r2⟩ := c_product hG P1 (out := 78) ln_78 hb ha B1 A1 (by omega) n78 hb3.1 ha3.1 (sB.w1 hG (by omega)) (sA.w1 hG (by omega)) zB
  rw [e2, e_bs]
  have P2 : PolyOK G τ2 := P1.keep o2 (fun x hx => ns2 n73 n78 hx)
  obtain ⟨τ3, e3, o3, r3⟩ := c_inverse hG P2 (out := 78) (a := 78) ln_78 ln_78 r2 (by omega) n78 (by omega) ((SB.mul hG sB sA).w1 hG (by omega))
  rw [e3, e_bs]
  have P3 : PolyOK G τ3 := P2.keep o3 (fun x hx => ns2 n73 n78 hx)
  have R3 : H6 τ3 79 (mul G A B) := (r1.keep o2 (by omega)).keep o3 (by omega)
  obtain ⟨τ4, e4, o4, r4⟩ := c_product hG P3 (out := out) (a := 78) (b := 79) hout ln_78 ln_79 r3 R3 ho hos (by omega) (by omega) (SB.w1 hG (SB.invU hG (SB.mul hG sB sA) _) (by omega)) ((SB.mul hG sA sB).w1 hG (by omega)) Z6.invs
  rw [e4, e_bs]
  refine ⟨τ4, rfl, ?_, r4⟩
  refine (o1.mono ?_).trans ((o2.mono ?_).trans ((o3.mono ?_).trans (o4.mono ?_))) <;> intro x hx <;> omega
theorem c_conjugated (hG : GOK G) (hP : PolyOK G σ) {out a u : Nat} {A U : Nat → Int} (hout : ln out = 6) (ha : ln a = 6) (hu : ln u = 6) (hA : H6 σ a A) (hU : H6 σ u U) (ho : out ≠ 73) (ho2 : out ≠ 79) (hos : notSum out) (ha3 : a ≠ 73 ∧ a ≠ 78 ∧ a ≠ 79) (hu3 : u ≠ 73 ∧ u ≠ 78 ∧ u ≠ 79) {M : Int} (hM : 8 * M ≤ 2 ^ 31) (hM0 : 0 ≤ M) (sA : SB G M A) (sU : SB G M U) (zA : Z6 G A) :
    ∃ τ, f_X0_conjugated σ out a u = some τ ∧ OL (fun x => x = 73 ∨ x = 78 ∨ x = 79 ∨ x = out) σ τ ∧ H6 τ out (mul G (inv G U) (mul G A U)) := by
  have n73 : notSum 73 := fun k hk => by omega
  have n78 : notSum 78 := fun k hk => by omega
  have n79 : notSum 79 := fun k hk => by omega
  unfold f_X0_conjugated
  obtain ⟨τ1, e1, o1, r1⟩ := c_product hG hP (out := 79) ln_79 ha hu hA hU (by omega) n79 ha3.1 hu3.1 (sA.w1 hG (by omega)) (sU.w1 hG (by omega)) zA
  rw [e1, e_bs]
  have P1 : PolyOK G τ1 := hP.keep o1 (fun x hx => ns2 n73 n79 hx)
  have U1 : H6 τ1 u U := hU.keep o1 (by omega)
  obtain ⟨τ2, e2, o2, r2⟩ := c_inverse hG P1 (out := 78) (a := u) ln_78 hu U1 (by omega) n78 hu3.1 (sU.w1 hG (by omega))
  rw [e2, e_bs]
  have P2 : PolyOK G τ2 := P1.keep o2 (fun x hx => ns2 n73 n78 hx)
  have R2 : H6 τ2 79 (mul G A U) := r1.keep o2 (by omega)
  obtain ⟨τ3, e3, o3, r3⟩ := c_product hG P2 (out := out) (a := 78) (b := 79) hout ln_78 ln_79 r2 R2 ho hos (by omega) (by omega) (SB.w1 hG (SB.invU hG sU _) (by omega)) ((SB.mul hG sA sU).w1 hG (by omega)) Z6.invs
  rw [e3, e_bs]
  refine ⟨τ3, rfl, ?_, r3⟩
  refine (o1.mono ?_).trans ((o2.mono ?_).trans (o3.mono ?_)) <;> intro x hx <;> omega
theorem c_doCommute (hG : GOK G) (hP : PolyOK G σ) {a b : Nat} {A B : Nat → Int} (ha : ln a = 6) (hb : ln b = 6) (hA : H6 σ a A) (hB : H6 σ b B) (ha3 : a ≠ 73 ∧ a ≠ 78 ∧ a ≠ 79) (hb3 : b ≠ 73 ∧ b ≠ 78 ∧ b ≠ 79) {M : Int} (hM : 8 * M ≤ 2 ^ 31) (hM0 : 0 ≤ M) (sA : SB G M A) (sB : SB G M B) (zA : Z6 G A) (zB : Z6 G B) :
    ∃ τ, f_X0_doCommute σ a b = some (areS G (mul G A B) (mul G B A), τ) ∧ OL (fun x => x = 73 ∨ x = 78 ∨ x = 79) σ τ := by
  have n73 : notSum 73 := fun k hk => by omega
  have n78 : notSum 78 := fun k hk => by omega
  have n79 : notSum 79 := fun k hk => by omega
  unfold f_X0_doCommute
  obtain ⟨τ1, e1, o1, r1⟩ := c_product hG hP (out := 78) ln_78 ha hb hA hB (by omega) n78 ha3.1 hb3.1 (sA.w1 hG (by omega)) (sB.w1 hG (by omega)) zA
  rw [e1, e_bs]
  have P1 : PolyOK G τ1 := hP.keep o1 (fun x hx => ns2 n73 n78 hx)
  have A1 : H6 τ1 a A := hA.keep o1 (by omega)
  have B1 : H6 τ1 b B := hB.keep o1 (by omega)
  obtain ⟨τ2, e2, o2, r2⟩ := c_product hG P1 (out := 79) ln_79 hb ha B1 A1 (by omega) n79 hb3.1 ha3.1 (sB.w1 hG (by omega)) (sA.w1 hG (by omega)) zB
  rw [e2, e_bs, c_same hG ln_78 ln_79 (r1.keep o2 (by omega)) r2 (zA.muls hG) (zB.muls hG), e_bs]
  refine ⟨τ2, rfl, ?_⟩
  refine (o1.mono ?_).trans (o2.mono ?_) <;> intro x hx <;> omega
end CQ
end
section
/-! commutators and conjugates in two ways; powers by binomials -/
section PO
variable {G : GD}
theorem comm_eq (hG : GOK G) (hJ : Jac G) {a b : Nat → Int} : EqG G (mul G (inv G (mul G b a)) (mul G a b)) (mul G (mul G (mul G (inv G a) (inv G b)) a) b) :=
  ((inv_prod hG hJ).times EqG.refl).trans (massoc hG hJ).symm
theorem conj_eq (hG : GOK G) (hJ : Jac G) {a u : Nat → Int} : EqG G (mul G (inv G u) (mul G a u)) (mul G (mul G (inv G u) a) u) := (massoc hG hJ).symm
theorem commute_iff (hG : GOK G) (hJ : Jac G) {a b : Nat → Int} : EqG G (mul G (mul G (mul G (inv G a) (inv G b)) a) b) O ↔ EqG G (mul G a b) (mul G b a) := by
  refine ⟨fun h => ?_, fun h => ?_⟩
  · have h1 : EqG G (mul G (inv G (mul G b a)) (mul G a b)) (mul G (inv G (mul G b a)) (mul G b a)) := (comm_eq hG hJ).trans (h.trans (inv_mul hG hJ).symm)
    exact mul_left_cancel hG hJ h1
  · exact (comm_eq hG hJ).symm.trans ((EqG.refl.times h).trans (inv_mul hG hJ))
/-- m over 3 -/
def three (m : Int) : Int := m * (m - 1) * (m - 2) / 6
theorem three_mul (m : Int) : m * (m - 1) * (m - 2) = 6 * three m := by
  have : (m * (m - 1) * (m - 2)) % 6 = 0 := by
    rw [Int.mul_emod, Int.mul_emod m]
    rcases (show m % 6 = 0 ∨ m % 6 = 1 ∨ m % 6 = 2 ∨ m % 6 = 3 ∨ m % 6 = 4 ∨ m % 6 = 5 by omega) with h | h | h | h | h | h
    · have h1 : (m - 1) % 6 = 5 := by omega
      have h2 : (m - 2) % 6 = 4 := by omega
      rw [h, h1, h2]; decide
    · have h1 : (m - 1) % 6 = 0 := by omega
      have h2 : (m - 2) % 6 = 5 := by omega
      rw [h, h1, h2]; decide
    · have h1 : (m - 1) % 6 = 1 := by omega
      have h2 : (m - 2) % 6 = 0 := by omega
      rw [h, h1, h2]; decide
    · have h1 : (m - 1) % 6 = 2 := by omega
      have h2 : (m - 2) % 6 = 1 := by omega
      rw [h, h1, h2]; decide
    · have h1 : (m - 1) % 6 = 3 := by omega
      have h2 : (m - 2) % 6 = 2 := by omega
      rw [h, h1, h2]; decide
    · have h1 : (m - 1) % 6 = 4 := by omega
      have h2 : (m - 2) % 6 = 3 := by omega
      rw [h, h1, h2]; decide
  unfold three
  omega
theorem two_mul (m : Int) : m * (m - 1) = 2 * two m := by
  have h := two_add (x := m) (y := 0)
  unfold two
  have : (m * (m - 1)) % 2 = 0 := by
    rw [Int.mul_emod]
    rcases (show m % 2 = 0 ∨ m % 2 = 1 by omega) with h | h
    · rw [h]; simp
    · have h2 : (m - 1) % 2 = 0 := by omega
      rw [h2]; simp
  omega
theorem two_succ (m : Int) : two (m + 1) = two m + m := by
  rw [two_add, show two 1 = 0 from rfl]; omega
theorem three_succ (m : Int) : three (m + 1) = three m + two m := by
  have h1 := three_mul m
  have h2 := three_mul (m + 1)
  have h3 := two_mul m
  have e : (m + 1) * (m + 1 - 1) * (m + 1 - 2) = m * (m - 1) * (m - 2) + 3 * (m * (m - 1)) := by
    rw [show m + 1 - 1 = m by omega, show m + 1 - 2 = m - 1 by omega, Int.add_mul, Int.one_mul, Int.add_mul]
    have a1 : m * m * (m - 1) = m * (m - 1) * m := by rw [Int.mul_assoc, Int.mul_assoc, Int.mul_comm m (m - 1)]
    have a2 : m * (m - 1) * (m - 2) = m * (m - 1) * m - m * (m - 1) * 2 := Int.mul_sub ..
    omega
  omega
theorem two_of_mul (m x : Int) : two (m * x) = m * two x + two m * (x * x) := by
  have h1 := two_mul (m * x)
  have h2 := two_mul x
  have h3 := two_mul m
  have e : m * x * (m * x - 1) = m * (x * (x - 1)) + m * (m - 1) * (x * x) := by
    simp only [Int.mul_sub, Int.sub_mul, Int.mul_one]
    have a1 : m * x * (m * x) = m * m * (x * x) := by simp only [Int.mul_assoc, Int.mul_comm, Int.mul_left_comm]
    have a2 : m * (x * x) = m * (x * x) := rfl
    omega
  have e2 : m * (x * (x - 1)) = 2 * (m * two x) := by rw [h2]; simp only [Int.mul_left_comm]
  have e3 : m * (m - 1) * (x * x) = 2 * (two m * (x * x)) := by rw [h3]; simp only [Int.mul_assoc]
  omega
section PP
variable {a : Nat → Int}
/-- the second and the third number of a power -/
def al (G : GD) (a : Nat → Int) (k : Nat) : Int := pT G k a a + pU G k a a + pV G k a a + pW G k a a + pX G k a a
def pV2 (G : GD) (m : Nat) (a : Nat → Int) : Int := sm (fun i => sm (fun j => DD G m j i j * a i * (a j * a j)) (gn G)) (gn G)
def be (G : GD) (a : Nat → Int) (k : Nat) : Int := pT G k (al G a) a + pV2 G k a + 2 * pW G k a a
def Q (G : GD) (a : Nat → Int) (m : Int) (k : Nat) : Int := a k * m + al G a k * two m + be G a k * three m
theorem part_low (hG : GOK G) {k : Nat} (hk : gw G k ≤ 2) {x y : Nat → Int} : pU G k x y = 0 ∧ pV G k x y = 0 ∧ pW G k x y = 0 ∧ pX G k x y = 0 ∧ pV2 G k x = 0 := by
  refine ⟨sm_zero (fun i _ => sm_zero (fun j _ => by rw [DD_0 hG (by omega)]; simp)), sm_zero (fun i _ => sm_zero (fun j _ => by rw [DD_0 hG (by omega)]; simp)), sm_zero (fun i _ => sm_zero (fun j _ => sm_zero (fun q _ => by rw [DD_0 hG (by omega)]; simp))), sm_zero (fun i _ => sm_zero (fun p _ => by
        split
        · exact sm_zero (fun j _ => by rw [DD_0 hG (by omega)]; simp)
        · rfl)), sm_zero (fun i _ => sm_zero (fun j _ => by rw [DD_0 hG (by omega)]; simp))⟩
theorem pT_low (hG : GOK G) {k : Nat} (hk : gw G k ≤ 1) {x y : Nat → Int} : pT G k x y = 0 := sm_zero (fun i _ => sm_zero (fun j _ => by
  by_cases h : tI G j i k = 0
  · rw [h]; simp
  · have h1 := tI_ne hG h
    have w1 := (hG.2.2.1 i (by omega)).1
    have w2 := (hG.2.2.1 j (by omega)).1
    omega))
theorem al_one (hG : GOK G) {k : Nat} (hk : gw G k ≤ 1) : al G a k = 0 := by
  have := part_low hG (k := k) (by omega) (x := a) (y := a)
  unfold al
  rw [pT_low hG hk, this.1, this.2.1, this.2.2.1, this.2.2.2.1]; rfl
theorem be_two (hG : GOK G) {k : Nat} (hk : gw G k ≤ 2) : be G a k = 0 := by
  have h := part_low hG hk (x := a) (y := a)
  unfold be
  rw [h.2.2.1, h.2.2.2.2]
  have : pT G k (al G a) a = 0 := sm_zero (fun i _ => sm_zero (fun j _ => by
    by_cases h : tI G j i k = 0
    · rw [h]; simp
    · have h1 := tI_ne hG h
      have w1 := (hG.2.2.1 i (by omega)).1
      rw [al_one hG (k := j) (by omega)]; simp))
  rw [this]; rfl
theorem Q_one (hG : GOK G) {m : Int} {k : Nat} (hk : gw G k ≤ 1) : Q G a m k = a k * m := by
  unfold Q; rw [al_one hG hk, be_two hG (by omega)]; simp
/-- one more -/
theorem Q_succ (hG : GOK G) {m : Int} : EqG G (mul G (Q G a m) a) (Q G a (m + 1)) := fun k hk => by
  rw [mul_eq hG hk]
  have eT : pT G k (Q G a m) a = m * pT G k a a + two m * pT G k (al G a) a := by
    unfold pT
    rw [sm_mul, sm_mul, sm_add]
    refine sm_congr (fun i _ => ?_)
    rw [sm_mul, sm_mul, sm_add]
    refine sm_congr (fun j _ => ?_)
    by_cases h : tI G j i k = 0
    · rw [h]; simp
    · have h1 := tI_ne hG h
      have w1 := (hG.2.2.1 i (by omega)).1
      have w4 := (hG.2.2.1 k hk).2
      unfold Q
      rw [be_two hG (k := j) (by omega), Int.zero_mul, Int.add_zero, Int.mul_add, Int.add_mul]
      congr 1
      · simp only [Int.mul_assoc, Int.mul_comm, Int.mul_left_comm]
      · simp only [Int.mul_assoc, Int.mul_comm, Int.mul_left_comm]
  have eU : pU G k (Q G a m) a = m * pU G k a a := by
    unfold pU
    rw [sm_mul]
    refine sm_congr (fun i _ => ?_)
    rw [sm_mul]
    refine sm_congr (fun j _ => ?_)
    rw [Int.mul_assoc, DD_congr hG (y := m * (a j * two (a i))) (fun _ _ h _ _ => by rw [Q_one hG (by omega), Int.mul_comm (a j), Int.mul_assoc])]
    simp only [Int.mul_assoc, Int.mul_comm, Int.mul_left_comm]
  have eV : pV G k (Q G a m) a = m * pV G k a a + two m * pV2 G k a := by
    unfold pV pV2
    rw [sm_mul, sm_mul, sm_add]
    refine sm_congr (fun i _ => ?_)
    rw [sm_mul, sm_mul, sm_add]
    refine sm_congr (fun j _ => ?_)
    rw [Int.mul_assoc, DD_congr hG (y := m * (a i * two (a j)) + two m * (a i * (a j * a j))) (fun _ _ h _ _ => by
      rw [Q_one hG (by omega), Int.mul_comm (a j) m, two_of_mul, Int.mul_add]
      simp only [Int.mul_assoc, Int.mul_comm, Int.mul_left_comm]), Int.mul_add]
    congr 1
    · simp only [Int.mul_assoc, Int.mul_comm, Int.mul_left_comm]
    · simp only [Int.mul_assoc, Int.mul_comm, Int.mul_left_comm]
  have eW : pW G k (Q G a m) a = m * pW G k a a + two m * (2 * pW G k a a) := by
    have e1 : pW G k (Q G a m) a = (m * m) * pW G k a a := by
      unfold pW
      rw [sm_mul]
      refine sm_congr (fun i _ => ?_)
      rw [sm_mul]
      refine sm_congr (fun j _ => ?_)
      rw [sm_mul]
      refine sm_congr (fun q _ => ?_)
      split
      · rw [Int.mul_assoc, Int.mul_assoc, DD_congr hG (y := m * m * (a j * (a q * a i))) (fun _ _ h h2 _ => by
          rw [Q_one hG (by omega), Q_one hG (by omega)]
          simp only [Int.mul_assoc, Int.mul_comm, Int.mul_left_comm])]
        simp only [Int.mul_assoc, Int.mul_comm, Int.mul_left_comm]
      · simp
    have e2 : m * m = m + 2 * two m := by rw [← two_mul, Int.mul_sub]; omega
    rw [e1, e2, Int.add_mul]
    congr 1
    simp only [Int.mul_assoc, Int.mul_comm, Int.mul_left_comm]
  have eX : pX G k (Q G a m) a = m * pX G k a a := by
    unfold pX
    rw [sm_mul]
    refine sm_congr (fun i _ => ?_)
    rw [sm_mul]
    refine sm_congr (fun p _ => ?_)
    split
    · rw [sm_mul]
      refine sm_congr (fun j _ => ?_)
      rw [Int.mul_assoc, Int.mul_assoc, DD_congr hG (y := m * (a j * (a p * a i))) (fun _ _ h _ _ => by
        rw [Q_one hG (by omega)]
        simp only [Int.mul_assoc, Int.mul_comm, Int.mul_left_comm])]
      simp only [Int.mul_assoc, Int.mul_comm, Int.mul_left_comm]
    · simp
  rw [eT, eU, eV, eW, eX]
  unfold Q
  rw [two_succ, three_succ]
  have f1 : al G a k * (two m + m) = al G a k * two m + (m * pT G k a a + m * pU G k a a + m * pV G k a a + m * pW G k a a + m * pX G k a a) := by
    rw [Int.mul_add]
    congr 1
    unfold al
    rw [Int.mul_comm]
    simp only [Int.mul_add]
  have f2 : be G a k * (three m + two m) = be G a k * three m + (two m * pT G k (al G a) a + two m * pV2 G k a + two m * (2 * pW G k a a)) := by
    rw [Int.mul_add]
    congr 1
    unfold be
    simp only [Int.add_mul, Int.mul_comm, Int.mul_assoc, Int.mul_left_comm]
  have f3 : a k * (m + 1) = a k * m + a k := by rw [Int.mul_add, Int.mul_one]
  omega
theorem Q_0 {k : Nat} : Q G a 0 k = 0 := by
  unfold Q; rw [show two 0 = 0 from rfl, show three 0 = 0 from rfl]; simp
theorem Q_1 {k : Nat} : Q G a 1 k = a k := by
  unfold Q; rw [show two 1 = 0 from rfl, show three 1 = 0 from rfl]; simp
theorem pw_Q (hG : GOK G) : ∀ n : Nat, EqG G (pw G a n) (Q G a n) := by
  intro n
  induction n with
  | zero => exact fun k _ => by show (0 : Int) = Q G a 0 k; rw [Q_0]
  | succ n ih =>
    have := (ih.times (EqG.refl (a := a))).trans (Q_succ hG (m := (n : Int)))
    exact this
theorem pw_succ' (hG : GOK G) (hJ : Jac G) : ∀ n : Nat, EqG G (mul G a (pw G a n)) (pw G a (n + 1)) := by
  intro n
  induction n with
  | zero => exact (mul_O hG).trans (O_mul hG).symm
  | succ n ih => exact (massoc hG hJ).symm.trans (ih.times EqG.refl)
/-- powers below 0 -/
theorem pw_neg (hG : GOK G) (hJ : Jac G) : ∀ n : Nat, EqG G (pw G (inv G a) n) (Q G a (-(n : Int))) := by
  intro n
  induction n with
  | zero => exact fun k _ => by show (0 : Int) = Q G a 0 k; rw [Q_0]
  | succ n ih =>
    have h1 := Q_succ hG (a := a) (m := -((n : Int) + 1))
    rw [show -((n : Int) + 1) + 1 = -(n : Int) by omega] at h1
    have h2 : EqG G (mul G (pw G (inv G a) (n + 1)) a) (pw G (inv G a) n) := (massoc hG hJ).trans ((EqG.refl.times (inv_mul hG hJ)).trans (mul_O hG))
    exact mul_right_cancel hG hJ (h2.trans (ih.trans h1.symm))
theorem raises_Q (hG : GOK G) (hJ : Jac G) {z : Int} : EqG G (pw G (if z < 0 then inv G a else a) z.natAbs) (Q G a z) := by
  by_cases h : z < 0
  · rw [if_pos h]
    have := pw_neg hG hJ (a := a) z.natAbs
    rwa [show -(z.natAbs : Int) = z by omega] at this
  · rw [if_neg h]
    have := pw_Q hG (a := a) z.natAbs
    rwa [show (z.natAbs : Int) = z by omega] at this
/-- the numbers by which the class tells a power -/
theorem Q_numbers (hG : GOK G) {k : Nat} (hk : k < gn G) : mul G a a k - 2 * a k = al G a k ∧ mul G (mul G a a) a k - 3 * mul G a a k + 3 * a k = be G a k := by
  have h1 : EqG G (mul G a a) (Q G a 2) := (EqG.times (fun m _ => Q_1.symm) EqG.refl).trans (Q_succ hG (m := 1))
  have h2 : EqG G (mul G (mul G a a) a) (Q G a 3) := (h1.times EqG.refl).trans (Q_succ hG (m := 2))
  rw [h1 k hk, h2 k hk]
  unfold Q
  rw [show two 2 = 1 from rfl, show two 3 = 3 from rfl, show three 2 = 0 from rfl, show three 3 = 1 from rfl]
  omega
end PP
end PO
end
section
/-! the class's powers -/
section RA
variable {G : GD} {σ : Mem}
theorem three_ok {z : Int} (h : -99 ≤ z ∧ z ≤ 99) : (oi z * (oi z - 1)) * (oi z - 2) / 6 = oi (three z) := by
  have e1 : (1 : Int64) = oi 1 := rfl
  have e2 : (2 : Int64) = oi 2 := rfl
  have e6 : (6 : Int64) = oi 6 := rfl
  rw [e1, e2, e6, oi_sub, oi_mul, oi_sub, oi_mul, three_mul]
  have hb : (z * (z - 1) * (z - 2)).natAbs ≤ 99 * 100 * 101 := by
    rw [Int.natAbs_mul, Int.natAbs_mul]
    exact Nat.mul_le_mul (Nat.mul_le_mul (by omega) (by omega)) (by omega)
  rw [three_mul] at hb
  rw [← Int64.toInt_inj, Int64.toInt_div, oi_toInt (by omega) (by omega), oi_toInt (by omega) (by omega), oi_toInt (by omega) (by omega), Int.mul_tdiv_cancel_left _ (by decide)]
  apply Int.bmod_eq_of_le <;> omega
theorem c_powerAt {k : Nat} (hk : k < 6) {z x1 x2 x3 : Int} (hz : -99 ≤ z ∧ z ≤ 99) (h1 : σ.2 75 k = oi x1) (h2 : σ.2 76 k = oi x2) (h3 : σ.2 77 k = oi x3) :
    f_X0_powerAt σ (i32 k) (oi z) = some (oi (x1 * z + (x2 - 2 * x1) * two z + (x3 - 3 * x2 + 3 * x1) * three z)) := by
  unfold f_X0_powerAt
  have n0 : ¬ i32 k < 0 := by rw [i32_0]; exact i_nlt (Nat.zero_le _) (by omega)
  have n6 : i32 k < 6 := by rw [i32_6]; exact i_lt hk (by omega)
  have p1 : f_X0_powerNumber σ (i32 k) 1 = some (oi x1) := by
    unfold f_X0_powerNumber
    rw [if_neg n0, if_pos n6, if_pos rfl, e_gL ln_75 hk (by omega), h1]
  have p2 : f_X0_powerNumber σ (i32 k) 2 = some (oi (x2 - 2 * x1)) := by
    unfold f_X0_powerNumber
    rw [if_neg n0, if_pos n6, if_neg (by decide), if_pos rfl, e_gL ln_76 hk (by omega), e_gL ln_75 hk (by omega), h1, h2, show (2 : Int64) = oi 2 from rfl, oi_mul, oi_sub]
  have p3 : f_X0_powerNumber σ (i32 k) 3 = some (oi (x3 - 3 * x2 + 3 * x1)) := by
    unfold f_X0_powerNumber
    rw [if_neg n0, if_pos n6, if_neg (by decide), if_neg (by decide), if_pos rfl, e_gL ln_77 hk (by omega), e_gL ln_76 hk (by omega), e_gL ln_75 hk (by omega), h1, h2, h3, show (3 : Int64) = oi 3 from rfl, oi_mul, oi_mul, oi_sub, oi_add]
  rw [p1, e_bs, p2, e_bs, e_nzL (by decide), p3, e_bs, e_nzL (by decide), two_ok (by omega) (by omega), three_ok hz, oi_mul, oi_mul, oi_mul, oi_add, oi_add]
/-- a power, as far as the group goes -/
def QZ (G : GD) (a : Nat → Int) (z : Int) : Nat → Int := fun k => if k < gn G then Q G a z k else 0
theorem c_findPowers (hG : GOK G) (hP : PolyOK G σ) {a : Nat} {A : Nat → Int} (ha : ln a = 6) (hA : H6 σ a A) {M : Int} (hM : 4 * M ≤ 2 ^ 31) (hM0 : 0 ≤ M) (sA : SB G M A) (zA : Z6 G A) :
    ∃ τ, f_X0_findPowers σ a = some τ ∧ OL (fun x => x = 73 ∨ x = 75 ∨ x = 76 ∨ x = 77) σ τ ∧ H6 τ 75 A ∧ H6 τ 76 (mul G A A) ∧ H6 τ 77 (mul G (mul G A A) A) := by
  have n73 : notSum 73 := fun k hk => by omega
  have n75 : notSum 75 := fun k hk => by omega
  have n76 : notSum 76 := fun k hk => by omega
  have n77 : notSum 77 := fun k hk => by omega
  unfold f_X0_findPowers
  obtain ⟨τ1, e1, o1, r1⟩ := c_copy (b := 75) ha ln_75 hA
  rw [e1, e_bs]
  have P1 : PolyOK G τ1 := hP.keep o1 (fun x hx => by rw [hx]; exact n75)
  obtain ⟨τ2, e2, o2, r2⟩ := c_product hG P1 (out := 76) ln_76 ln_75 ln_75 r1 r1 (by omega) n76 (by omega) (by omega) (sA.w1 hG (by omega)) (sA.w1 hG (by omega)) zA
  rw [e2, e_bs]
  have P2 : PolyOK G τ2 := P1.keep o2 (fun x hx => ns2 n73 n76 hx)
  have r3 : H6 τ2 75 A := r1.keep o2 (by omega)
  obtain ⟨τ3, e3, o3, r4⟩ := c_product hG P2 (out := 77) ln_77 ln_76 ln_75 r2 r3 (by omega) n77 (by omega) (by omega) ((SB.mul hG sA sA).w1 hG (by omega)) (sA.w1 hG (by omega)) (zA.muls hG)
  rw [e3, e_bs]
  refine ⟨τ3, rfl, ?_, r3.keep o3 (by omega), r2.keep o3 (by omega), r4⟩
  refine (o1.mono ?_).trans ((o2.mono ?_).trans (o3.mono ?_)) <;> intro x hx <;> omega
theorem c_raise (hG : GOK G) (hP : PolyOK G σ) {out a : Nat} {A : Nat → Int} {m : Int64} {z : Int} (hout : ln out = 6) (ha : ln a = 6) (hA : H6 σ a A) (ho : out ≠ 75 ∧ out ≠ 76 ∧ out ≠ 77) (hm : m = oi z) (hz : -99 ≤ z ∧ z ≤ 99) {M : Int} (hM : 4 * M ≤ 2 ^ 31) (hM0 : 0 ≤ M) (sA : SB G M A) (zA : Z6 G A) :
    ∃ τ, f_X0_raise σ out a m = some τ ∧ OL (fun x => x = 73 ∨ x = 75 ∨ x = 76 ∨ x = 77 ∨ x = out) σ τ ∧ H6 τ out (QZ G A z) := by
  subst hm
  unfold f_X0_raise
  obtain ⟨τ0, e0, o0, r1, r2, r3⟩ := c_findPowers hG hP ha hA hM hM0 sA zA
  rw [e0, e_bs]
  have hl := loop_inv (body := fun (z3 : Mem × Int32) => l_X0_raise_8 out (oi z) z3.1 z3.2) (fun n s => ∃ k τ, k ≤ 6 ∧ n = 6 - k ∧ s = (τ, i32 k) ∧ OL (fun x => x = out) τ0 τ ∧ ∀ i, i < k → τ.2 out i = oi (QZ G A z i)) (fun τ => OL (fun x => x = out) τ0 τ ∧ ∀ i, i < 6 → τ.2 out i = oi (QZ G A z i)) ?_ 6 (τ0, 0) ⟨0, τ0, by omega, rfl, rfl, OL.refl, fun i h => absurd h (Nat.not_lt_zero _)⟩
  · obtain ⟨τ, h1, h2, h3⟩ := hl
    refine ⟨τ, h1, (o0.mono ?_).trans (h2.mono ?_), h3⟩ <;> intro x hx <;> omega
  · rintro n s ⟨k, τ, hk, hn, rfl, hOL, hv⟩
    by_cases hk6 : k = 6
    · right
      refine ⟨τ, ?_, hOL, fun i hi => hv i (by omega)⟩
      show l_X0_raise_8 _ _ _ _ = _
      unfold l_X0_raise_8
      rw [hk6, i32_6, if_pos (i_le (Nat.le_refl 6) (by omega))]
    · left
      refine ⟨(wL τ out k (oi (QZ G A z k)), i32 (k + 1)), 6 - (k + 1), by omega, ?_, k + 1, _, by omega, rfl, rfl, hOL.trans (OL.wL rfl), fun i hi => ?_⟩
      · show l_X0_raise_8 _ _ _ _ = _
        unfold l_X0_raise_8
        have g1 : τ.2 75 k = oi (A k) := (r1.keep hOL (fun q => ho.1 q.symm)) k (by omega)
        have g2 : τ.2 76 k = oi (mul G A A k) := (r2.keep hOL (fun q => ho.2.1 q.symm)) k (by omega)
        have g3 : τ.2 77 k = oi (mul G (mul G A A) A k) := (r3.keep hOL (fun q => ho.2.2 q.symm)) k (by omega)
        have hval : A k * z + (mul G A A k - 2 * A k) * two z + (mul G (mul G A A) A k - 3 * mul G A A k + 3 * A k) * three z = QZ G A z k := by
          unfold QZ
          by_cases h1 : k < gn G
          · rw [if_pos h1]
            have hq := Q_numbers hG (a := A) h1
            rw [hq.1, hq.2]
            rfl
          · have m1 : mul G A A k = 0 := (zA.muls hG) k (by omega) (by omega)
            have m2 : mul G (mul G A A) A k = 0 := ((zA.muls hG).muls hG) k (by omega) (by omega)
            rw [if_neg h1, m1, m2, zA k (by omega) (by omega)]
            simp
        rw [i32_6, if_neg (i_nle (by omega) (by omega)), c_powerAt (by omega) hz g1 g2 g3, e_bs, hval, e_pL hout (by omega) (by omega), i32_1, i32_add]
      · rw [wL_2]
        by_cases h1 : i = k
        · rw [if_pos ⟨rfl, h1⟩, h1]
        · rw [if_neg (fun q => h1 q.2)]; exact hv i (by omega)
end RA
end
section
/-! roots, exponent by exponent -/
section RT
variable {G : GD}
/-- what is left for exponent k, and the exponent that it makes -/
def rtD (G : GD) (a : Nat → Int) (z : Int) (r : Nat → Int) (k : Nat) : Int64 := oi (a k - Q G r z k)
def rtE (G : GD) (a : Nat → Int) (z : Int) (r : Nat → Int) (k : Nat) : Int := (rtD G a z r k / oi z).toInt
def rtU (G : GD) (a : Nat → Int) (z : Int) : Nat → (Nat → Int)
  | 0 => fun _ => 0
  | k + 1 => uV (rtU G a z k) k (rtE G a z (rtU G a z k) k)
def rtOK (G : GD) (a : Nat → Int) (z : Int) (k : Nat) : Prop := rtD G a z (rtU G a z k) k / oi z * oi z = rtD G a z (rtU G a z k) k
def rtIn (G : GD) (a : Nat → Int) (z : Int) (k : Nat) : Prop := -999 ≤ oi (rtE G a z (rtU G a z k) k) ∧ oi (rtE G a z (rtU G a z k) k) ≤ 999
theorem oi_toInt' {x : Int64} : oi x.toInt = x := Int64.ofInt_toInt x
theorem rtU_beyond {a : Nat → Int} {z : Int} {m : Nat} : ∀ k, k ≤ m → rtU G a z k m = 0 := by
  intro k
  induction k with
  | zero => intro _; rfl
  | succ k ih =>
    intro h
    show uV (rtU G a z k) k _ m = 0
    unfold uV
    rw [if_neg (by omega), ih (by omega)]
theorem rtU_keep {a : Nat → Int} {z : Int} {m : Nat} : ∀ d k, m < k → rtU G a z (k + d) m = rtU G a z k m := by
  intro d
  induction d with
  | zero => intro k _; rfl
  | succ d ih =>
    intro k h
    show uV (rtU G a z (k + d)) (k + d) _ m = _
    unfold uV
    rw [if_neg (by omega), ih k h]
theorem rtU_at {a : Nat → Int} {z : Int} {n k : Nat} (h : k < n) : rtU G a z n k = rtE G a z (rtU G a z k) k := by
  have h1 := rtU_keep (G := G) (a := a) (z := z) (m := k) (n - (k + 1)) (k + 1) (Nat.lt_succ_self k)
  rw [show k + 1 + (n - (k + 1)) = n by omega] at h1
  rw [h1]
  show uV (rtU G a z k) k _ k = _
  unfold uV
  rw [if_pos rfl]
theorem tdiv_le {x z B : Int} (hz : 1 ≤ z) (h : -B ≤ x ∧ x ≤ B) : -B ≤ x.tdiv z ∧ x.tdiv z ≤ B := by
  have h1 : (x.tdiv z).natAbs ≤ x.natAbs := by
    rw [Int.natAbs_tdiv]
    exact Nat.div_le_self _ _
  omega
/-- weight one: the exponent itself over z -/
theorem rtE_one (hG : GOK G) {a : Nat → Int} {z : Int} {k : Nat} (hz : 1 ≤ z ∧ z ≤ 99) (hk : gw G k ≤ 1) (ha : -999 ≤ a k ∧ a k ≤ 999) : -999 ≤ rtE G a z (rtU G a z k) k ∧ rtE G a z (rtU G a z k) k ≤ 999 := by
  unfold rtE rtD
  rw [Q_one hG hk, rtU_beyond k (Nat.le_refl k), Int.zero_mul, Int.sub_zero, Int64.toInt_div, oi_toInt (by omega) (by omega), oi_toInt (by omega) (by omega)]
  have := tdiv_le hz.1 ha
  have hb : ((a k).tdiv z).bmod (2 ^ 64) = (a k).tdiv z := by apply Int.bmod_eq_of_le <;> omega
  rw [hb]
  exact this
theorem rtU_SB (hG : GOK G) {a : Nat → Int} {z : Int} (hz : 1 ≤ z ∧ z ≤ 99) (sA : SB G 999 a) (k : Nat) : SB G 999 (rtU G a z k) := fun j hj hw => by
  by_cases h : j < k
  · rw [rtU_at h]
    exact rtE_one hG hz (by omega) (sA j hj hw)
  · rw [rtU_beyond k (by omega)]; omega
theorem m64 {m : Int32} {z : Int} (hm : m.toInt = z) : m.toInt64 = oi z := by
  have h1 := Int32.le_toInt m
  have h2 := Int32.toInt_lt m
  rw [← Int64.toInt_inj, Int32.toInt_toInt64, oi_toInt (by omega) (by omega), hm]
theorem oiz_ne {z : Int} (hz : 1 ≤ z ∧ z ≤ 99) : oi z ≠ 0 := fun h => by
  have := congrArg Int64.toInt h
  rw [oi_toInt (by omega) (by omega)] at this
  have h2 : (0 : Int64).toInt = 0 := rfl
  omega
theorem p_extracts {σ : Mem} {f : SF} (h : MG σ G) (hG : GOK G) (h0 : M0 σ) {s t : Nat} {m : Int32} {z : Int} (hs : s < 100) (ht : t + 4 < 100) (hst : s < t ∨ t + 4 < s) (hm : m.toInt = z) (hz : 1 ≤ z ∧ z ≤ 99) (sA : SB G 999 (f s)) :
    ∃ b f', f_X11_extracts (PS σ f) (i32 s) (i32 t) m = some (b, PS σ f') ∧ (b = true ↔ ∀ k, k < gn G → rtOK G (f s) z k) ∧ (b = true → f' t = rtU G (f s) z (gn G)) ∧ ∀ q, q < t ∨ t + 4 < q → f' q = f q := by
  have hn := hG.2.1
  unfold f_X11_extracts
  rw [p_ones (by omega), e_bs]
  have hl := loop_inv (body := fun (z3 : Mem × Int32) => l_X11_extracts_8 (i32 s) (i32 t) m z3.1 z3.2) (fun n x => ∃ k f', k ≤ gn G ∧ n = gn G - k ∧ x = (PS σ f', i32 k) ∧ f' t = rtU G (f s) z k ∧ (∀ i, i < k → rtOK G (f s) z i) ∧ ∀ q, q < t ∨ t + 4 < q → f' q = f q) (fun x => ∃ b f', x = (b, PS σ f') ∧ (b = true ↔ ∀ k, k < gn G → rtOK G (f s) z k) ∧ (b = true → f' t = rtU G (f s) z (gn G)) ∧ ∀ q, q < t ∨ t + 4 < q → f' q = f q) ?_ (gn G) (PS σ (uS f t (fun _ => 0)), 0) ⟨0, _, Nat.zero_le _, by omega, rfl, uS_self, fun i hi => absurd hi (Nat.not_lt_zero _), fun q hq => uS_ne (by omega)⟩
  · obtain ⟨x, hx, b, f', rfl, h1, h2, h3⟩ := hl
    exact ⟨b, f', hx, h1, h2, h3⟩
  · rintro n x ⟨k, f', hk, hnk, rfl, h1, h2, h3⟩
    have hfs : f' s = f s := h3 s (by omega)
    show _ ∨ _
    by_cases hke : k = gn G
    · right
      refine ⟨(true, PS σ f'), ?_, true, f', rfl, ⟨fun _ i hi => h2 i (by omega), fun _ => rfl⟩, fun _ => by rw [h1, hke], h3⟩
      show l_X11_extracts_8 _ _ _ _ _ = _
      unfold l_X11_extracts_8
      rw [e_n (PS_MG h), e_bs, if_pos (i_le (by omega) (by omega))]
    · obtain ⟨f1, e1, g1, k1⟩ := p_raises (f := f') h hG h0 (s := t) (t := t + 1) (m := m) (z := z) (by omega) (by omega) (by omega) hm (by omega) (B := 999) (by omega) (by omega) (by rw [h1]; exact rtU_SB hG hz sA k)
      have hD : oi (f s k) - oi (f1 (t + 1) k) = rtD G (f s) z (rtU G (f s) z k) k := by
        rw [g1, if_neg (by omega), h1, pw_Q hG z.natAbs k (by omega), oi_sub, show (z.natAbs : Int) = z by omega]
        rfl
      have hbody : ∀ y, (if (rtD G (f s) z (rtU G (f s) z k) k - rtD G (f s) z (rtU G (f s) z k) k / oi z * oi z) = 0 then (nzL (oi z) ((f_X11_puts (PS σ f1) (i32 t) (i32 k) (rtD G (f s) z (rtU G (f s) z k) k / oi z)).bind (fun (σ9 : Mem) => some (Sum.inl (σ9, i32 k + 1))))) else (some (Sum.inr (false, PS σ f1))) : Option ((Mem × Int32) ⊕ (Bool × Mem))) = y → l_X11_extracts_8 (i32 s) (i32 t) m (PS σ f') (i32 k) = y := by
        intro y hy
        unfold l_X11_extracts_8
        rw [e_n (PS_MG h), e_bs, if_neg (i_nle (by omega) (by omega)), i32_1, i32_add, e1, e_bs, p_of hs (by omega), e_bs, p_of (by omega) (by omega), e_bs, k1 s (by omega), hfs, hD, e_bd, m64 hm, e_nzL (oiz_ne hz)]
        exact hy
      by_cases hr : rtOK G (f s) z k
      · left
        refine ⟨(PS σ (uS f1 t (rtU G (f s) z (k + 1))), i32 (k + 1)), gn G - (k + 1), by omega, ?_, k + 1, _, by omega, rfl, rfl, uS_self, fun i hi => ?_, fun q hq => by rw [uS_ne (by omega), k1 q (by omega), h3 q hq]⟩
        · refine hbody _ ?_
          have hr' : rtD G (f s) z (rtU G (f s) z k) k / oi z * oi z = rtD G (f s) z (rtU G (f s) z k) k := hr
          rw [hr', Int64.sub_self, if_pos rfl, e_nzL (oiz_ne hz), show rtD G (f s) z (rtU G (f s) z k) k / oi z = oi (rtE G (f s) z (rtU G (f s) z k) k) from oi_toInt'.symm, p_puts (by omega) (by omega), e_bs, i32_1, i32_add, k1 t (by omega), h1]
          rfl
        · by_cases hi2 : i = k
          · rw [hi2]; exact hr
          · exact h2 i (by omega)
      · right
        refine ⟨(false, PS σ f1), ?_, false, f1, rfl, ⟨fun q => absurd q (by decide), fun q => absurd (q k (by omega)) hr⟩, fun q => absurd q (by decide), fun q hq => by rw [k1 q (by omega), h3 q hq]⟩
        refine hbody _ ?_
        rw [if_neg]
        intro hq
        have e3 : rtD G (f s) z (rtU G (f s) z k) k = rtD G (f s) z (rtU G (f s) z k) k / oi z * oi z := by
          have := congrArg (· + rtD G (f s) z (rtU G (f s) z k) k / oi z * oi z) hq
          simp only [Int64.sub_add_cancel, Int64.zero_add] at this
          exact this
        exact hr e3.symm
end RT
end
section
/-! the class's roots -/
section CR
variable {G : GD} {σ : Mem}
theorem mul_belowL (hG : GOK G) {a a' x : Nat → Int} {m : Nat} (hm : m < gn G) (h : ∀ i, i < m → a i = a' i) : mul G a x m - a m = mul G a' x m - a' m := by
  rw [mul_eq hG hm, mul_eq hG hm]
  have e1 : pT G m a x = pT G m a' x := sm_congr (fun i _ => sm_congr (fun j _ => by
    by_cases hi : j < m
    · rw [h j hi]
    · rw [tI_low hG (by omega)]; simp))
  have e2 : pU G m a x = pU G m a' x := sm_congr (fun i _ => sm_congr (fun j _ => by
    by_cases hi : j < m
    · rw [h j hi]
    · rw [DD_low hG (by omega)]; simp))
  have e3 : pV G m a x = pV G m a' x := sm_congr (fun i _ => sm_congr (fun j _ => by
    by_cases hi : j < m
    · rw [h j hi]
    · rw [DD_low hG (by omega)]; simp))
  have e4 : pW G m a x = pW G m a' x := sm_congr (fun i _ => sm_congr (fun j _ => sm_congr (fun q _ => by
    by_cases hi : j < m ∧ q < m
    · rw [h j hi.1, h q hi.2]
    · rw [DD_low hG (by omega)]; simp)))
  have e5 : pX G m a x = pX G m a' x := sm_congr (fun i _ => sm_congr (fun p _ => by
    split
    · refine sm_congr (fun j _ => ?_)
      by_cases hi2 : j < m
      · rw [h j hi2]
      · rw [DD_low hG (by omega)]; simp
    · rfl))
  omega
/-- a square, when exponent k alone has changed -/
theorem sq_below (hG : GOK G) {r r' : Nat → Int} {m : Nat} (h : ∀ i, i < m → r i = r' i) : mul G r' r' m = mul G r r m + 2 * (r' m - r m) ∨ ¬ m < gn G := by
  by_cases hm : m < gn G
  · left
    have h1 := mul_belowL hG (x := r') hm h
    have h2 := mul_below hG (a := r) hm h
    omega
  · exact Or.inr hm
theorem TbU.mono {t : Nat} {x x' : Nat → Int} {p q : Nat → Prop} (h : TbU G σ t x p) (hq : ∀ v, v < 12 → q v → p v ∧ x v = x' v) : TbU G σ t x' q := fun v hv hqv => by
  obtain ⟨h1, h2⟩ := hq v hv hqv
  rw [← h2]
  exact h v hv h1
def upx (x : Nat → Int) (v : Nat) (y : Int) : Nat → Int := fun u => if u = v then y else x u
theorem c_putT {t v : Nat} {y : Int} {x : Nat → Int} {p : Nat → Prop} (ht : ln t = 64) (hv : v < 12) (hy : gw G (v % 6) = 1 → two64ok y) (hT : TbU G σ t x p) :
    ∃ τ, f_X4_put σ t (i32 v) (oi y) = some τ ∧ OL (fun x => x = t) σ τ ∧ TbU G τ t (upx x v y) (fun u => p u ∨ u = v) := by
  obtain ⟨τ, e, o, s, r⟩ := c_put (G := G) (σ := σ) ht hv hy
  refine ⟨τ, e, o, fun u hu hpu => ?_⟩
  unfold upx
  by_cases h : u = v
  · rw [if_pos h, h]; exact s
  · rw [if_neg h]
    obtain ⟨q1, q2, q3⟩ := r u h
    rw [q1, q2, q3]
    exact hT u hu (by rcases hpu with h1 | h1; exact h1; exact absurd h1 h)
theorem TbU.keep {P : Nat → Prop} {τ : Mem} {t : Nat} {x : Nat → Int} {p : Nat → Prop} (h : TbU G σ t x p) (ho : OL P σ τ) (hn : ¬ P t) : TbU G τ t x p := fun v hv hp => by rw [ho.2 t hn]; exact h v hv hp
theorem c_putRoot {k : Nat} {y : Int} {x w : Nat → Int} {p q : Nat → Prop} (hk : k < 6) (hy : gw G k = 1 → two64ok y) (hT : TbU G σ 73 x p) (hW : TbU G σ 74 w q) :
    ∃ τ, f_X0_putRoot σ (i32 k) (oi y) = some τ ∧ OL (fun x => x = 73 ∨ x = 74 ∨ x = 75) σ τ ∧ (∀ i, τ.2 75 i = if i = k then oi y else σ.2 75 i) ∧ TbU G τ 73 (upx (upx x k y) (6 + k) y) (fun u => (p u ∨ u = k) ∨ u = 6 + k) ∧ TbU G τ 74 (upx w (6 + k) y) (fun u => q u ∨ u = 6 + k) := by
  unfold f_X0_putRoot
  have m1 : k % 6 = k := by omega
  have m2 : (6 + k) % 6 = k := by omega
  have o0 : OL (fun x => x = 75) σ (wL σ 75 k (oi y)) := OL.wL rfl
  obtain ⟨τ1, e1, o1, t1⟩ := c_putT (σ := wL σ 75 k (oi y)) (t := 73) (v := k) (y := y) ln_73 (by omega) (by rw [m1]; exact hy) (hT.keep o0 (by omega))
  obtain ⟨τ2, e2, o2, t2⟩ := c_putT (σ := τ1) (t := 73) (v := 6 + k) (y := y) ln_73 (by omega) (by rw [m2]; exact hy) t1
  obtain ⟨τ3, e3, o3, t3⟩ := c_putT (σ := τ2) (t := 74) (v := 6 + k) (y := y) ln_74 (by omega) (by rw [m2]; exact hy) (((hW.keep o0 (by omega)).keep o1 (by omega)).keep o2 (by omega))
  refine ⟨τ3, ?_, (o0.mono ?_).trans ((o1.mono ?_).trans ((o2.mono ?_).trans (o3.mono ?_))), ?_, t2.keep o3 (by omega), t3⟩
  · rw [e_pL ln_75 hk (by omega), e1, e_bs, i32_6, i32_add, e2, e_bs, e3, e_bs]
  · intro x hx; omega
  · intro x hx; omega
  · intro x hx; omega
  · intro x hx; omega
  · intro i
    rw [o3.2 75 (by omega), o2.2 75 (by omega), o1.2 75 (by omega), wL_2]
    by_cases h : i = k
    · rw [if_pos ⟨rfl, h⟩, if_pos h]
    · rw [if_neg (fun z => h z.2), if_neg h]
def SQ (G : GD) (r : Nat → Int) : Nat → Int := mul G r r
/-- how far the roots are -/
def RtI (G : GD) (σ τ : Mem) (A : Nat → Int) (z : Int) (k : Nat) : Prop :=
  OL (fun x => x = 73 ∨ x = 74 ∨ x = 75 ∨ x = 76 ∨ x = 77) σ τ ∧ (∀ i, i < k → τ.2 75 i = oi (rtU G A z k i)) ∧ TbU G τ 73 (two6 (rtU G A z k) (rtU G A z k)) (fun v => v % 6 < k) ∧ TbU G τ 74 (two6 (SQ G (rtU G A z k)) (rtU G A z k)) (fun v => v % 6 < k) ∧ (∀ i, i < k → rtOK G A z i ∧ rtIn G A z i)
theorem two6_l {a b : Nat → Int} {v : Nat} (h : v < 6) : two6 a b v = a v := by unfold two6; rw [if_pos h]
theorem two6_r {a b : Nat → Int} {v : Nat} (h : 6 ≤ v) : two6 a b v = b (v - 6) := by unfold two6; rw [if_neg (by omega)]
theorem two6_mul {a b : Nat → Int} {k : Nat} (hG : GOK G) (hk : k < 6) (za : gn G ≤ k → a k = 0) : (if k < gn G then mul G (two6 a b) (fun i => two6 a b (6 + i)) k else 0) = mul G a b k := by
  have hn := hG.2.1
  by_cases h1 : k < gn G
  · rw [if_pos h1]
    refine mul_congr (fun i hi => ?_) (fun i hi => ?_) h1
    · exact two6_l (by omega)
    · show two6 a b (6 + i) = b i
      rw [two6_r (by omega), show 6 + i - 6 = i by omega]
  · rw [if_neg h1, mul_beyond hG (by omega), za (by omega)]
theorem Q_all (hG : GOK G) {r : Nat → Int} {z : Int} {k : Nat} (hr : r k = 0) : r k * z + (mul G r r k - 2 * r k) * two z + (mul G (mul G r r) r k - 3 * mul G r r k + 3 * r k) * three z = Q G r z k := by
  by_cases h1 : k < gn G
  · have hq := Q_numbers hG (a := r) h1
    rw [hq.1, hq.2]
    rfl
  · have w0 : gw G k = 0 := hG.2.2.2.2.1 k (by omega)
    have m1 : mul G r r k = 0 := by rw [mul_beyond hG (by omega)]; exact hr
    have m2 : mul G (mul G r r) r k = 0 := by rw [mul_beyond hG (by omega)]; exact m1
    rw [Q_one hG (by omega), m1, m2, hr]
    simp
theorem c_rootStep (hG : GOK G) {τ : Mem} {x1 : Nat} {A : Nat → Int} {z : Int} {k : Nat} (hP : PolyOK G σ) (hx1 : ln x1 = 6) (hA : H6 σ x1 A) (zA : Z6 G A) (hx : x1 ≠ 73 ∧ x1 ≠ 74 ∧ x1 ≠ 75 ∧ x1 ≠ 76 ∧ x1 ≠ 77) (hz : 1 ≤ z ∧ z ≤ 99) (hk : k < 6) (hI : RtI G σ τ A z k) :
    ∃ υ, OL (fun x => x = 73 ∨ x = 74 ∨ x = 75 ∨ x = 76 ∨ x = 77) σ υ ∧ ((rtOK G A z k ∧ rtIn G A z k ∧ l_X0_extract_11 x1 (oi z) τ (i32 k) = some (Sum.inl (υ, i32 (k + 1))) ∧ RtI G σ υ A z (k + 1)) ∨ (¬ (rtOK G A z k ∧ rtIn G A z k) ∧ l_X0_extract_11 x1 (oi z) τ (i32 k) = some (Sum.inr (Sum.inr (false, υ))))) := by
  obtain ⟨ho, h75, hT, hW, hok⟩ := hI
  have hn := hG.2.1
  have n73 : notSum 73 := fun k hk => by omega
  have n74 : notSum 74 := fun k hk => by omega
  have n75 : notSum 75 := fun k hk => by omega
  have n76 : notSum 76 := fun k hk => by omega
  have n77 : notSum 77 := fun k hk => by omega
  have nS : ∀ x, (x = 73 ∨ x = 74 ∨ x = 75 ∨ x = 76 ∨ x = 77) → notSum x := fun x hx => by
    rcases hx with h | h | h | h | h <;> rw [h] <;> assumption
  have rk0 : rtU G A z k k = 0 := rtU_beyond k (Nat.le_refl k)
  have sq1 : gw G k = 1 → SQ G (rtU G A z k) k = 0 := fun hw => by
    show mul G _ _ k = 0
    rw [m1 hG hw, rk0]; rfl
  obtain ⟨τ5, e5, o5, q5, T5, W5⟩ := c_putRoot (k := k) (y := 0) hk (fun _ => ⟨by omega, by omega⟩) hT hW
  have O5 : OL (fun x => x = 73 ∨ x = 74 ∨ x = 75 ∨ x = 76 ∨ x = 77) σ τ5 := ho.trans (o5.mono (fun x hx => by omega))
  have T5' : TbU G τ5 73 (two6 (rtU G A z k) (rtU G A z k)) (fun v => v % 6 ≤ k) := T5.mono (fun v hv hvk => by
    refine ⟨by omega, ?_⟩
    unfold upx
    by_cases h1 : v = 6 + k
    · rw [if_pos h1, two6_r (by omega), h1, show 6 + k - 6 = k by omega, rk0]
    · rw [if_neg h1]
      by_cases h2 : v = k
      · rw [if_pos h2, two6_l (by omega), h2, rk0]
      · rw [if_neg h2])
  have v7 := (hP.keep O5 nS).valueU hk ln_73 T5'
  rw [two6_mul hG hk (fun _ => rk0)] at v7
  -- the square
  have O8 : OL (fun x => x = 76) τ5 (wL τ5 76 k (oi (SQ G (rtU G A z k) k))) := OL.wL rfl
  obtain ⟨τ10, e10, o10, W10⟩ := c_putT (σ := wL τ5 76 k (oi (SQ G (rtU G A z k) k))) (t := 74) (v := k) (y := SQ G (rtU G A z k) k) ln_74 (by omega) (fun hw => by
    rw [Nat.mod_eq_of_lt hk] at hw
    rw [sq1 hw]; exact ⟨by omega, by omega⟩) (W5.keep O8 (by omega))
  have O10 : OL (fun x => x = 73 ∨ x = 74 ∨ x = 75 ∨ x = 76 ∨ x = 77) σ τ10 := O5.trans ((O8.mono (fun x hx => by omega)).trans (o10.mono (fun x hx => by omega)))
  have W10' : TbU G τ10 74 (two6 (SQ G (rtU G A z k)) (rtU G A z k)) (fun v => v % 6 ≤ k) := W10.mono (fun v hv hvk => by
    refine ⟨by omega, ?_⟩
    unfold upx
    by_cases h2 : v = k
    · rw [if_pos h2, two6_l (by omega), h2]
    · rw [if_neg h2]
      by_cases h1 : v = 6 + k
      · rw [if_pos h1, two6_r (by omega), h1, show 6 + k - 6 = k by omega, rk0]
      · rw [if_neg h1])
  have v12 := (hP.keep O10 nS).valueU hk ln_74 W10'
  rw [two6_mul hG hk (fun h => by show mul G _ _ k = 0; rw [mul_beyond hG h]; exact rk0)] at v12
  have O13 : OL (fun x => x = 77) τ10 (wL τ10 77 k (oi (mul G (SQ G (rtU G A z k)) (rtU G A z k) k))) := OL.wL rfl
  have P13 : OL (fun x => x = 73 ∨ x = 74 ∨ x = 75 ∨ x = 76 ∨ x = 77) σ (wL τ10 77 k (oi (mul G (SQ G (rtU G A z k)) (rtU G A z k) k))) := O10.trans (O13.mono (fun x hx => by omega))
  have T13 := (T5'.keep O8 (by omega)).keep o10 (by omega) |>.keep O13 (by omega)
  have W13 := W10'.keep O13 (by omega)
  have a75 : (wL τ10 77 k (oi (mul G (SQ G (rtU G A z k)) (rtU G A z k) k))).2 75 k = oi (rtU G A z k k) := by
    rw [O13.2 75 (by omega), o10.2 75 (by omega), O8.2 75 (by omega), q5, if_pos rfl, rk0]
  have a76 : (wL τ10 77 k (oi (mul G (SQ G (rtU G A z k)) (rtU G A z k) k))).2 76 k = oi (mul G (rtU G A z k) (rtU G A z k) k) := by
    rw [O13.2 76 (by omega), o10.2 76 (by omega), wL_2, if_pos ⟨rfl, rfl⟩]; rfl
  have a77 : (wL τ10 77 k (oi (mul G (SQ G (rtU G A z k)) (rtU G A z k) k))).2 77 k = oi (mul G (mul G (rtU G A z k) (rtU G A z k)) (rtU G A z k) k) := by
    rw [wL_2, if_pos ⟨rfl, rfl⟩]; rfl
  have b75 : ∀ i, (wL τ10 77 k (oi (mul G (SQ G (rtU G A z k)) (rtU G A z k) k))).2 75 i = if i = k then oi 0 else τ.2 75 i := fun i => by
    rw [O13.2 75 (by omega), o10.2 75 (by omega), O8.2 75 (by omega), q5]
  have hpa := c_powerAt hk (z := z) (by omega) a75 a76 a77
  rw [Q_all hG rk0] at hpa
  have hA13 := hA.keep P13 (by omega) k hk
  have hbody : ∀ y, (if (rtD G A z (rtU G A z k) k / oi z * oi z) = rtD G A z (rtU G A z k) k then (if rtD G A z (rtU G A z k) k / oi z < (-999) then (some (Sum.inr (Sum.inr (false, (wL τ10 77 k (oi (mul G (SQ G (rtU G A z k)) (rtU G A z k) k))))))) else (if rtD G A z (rtU G A z k) k / oi z ≤ 999 then ((f_X0_putRoot (wL τ10 77 k (oi (mul G (SQ G (rtU G A z k)) (rtU G A z k) k))) (i32 k) (rtD G A z (rtU G A z k) k / oi z)).bind (fun (σ18 : Mem) => gL σ18 76 (i32 k) (fun (v19 : Int64) => pL σ18 76 (i32 k) (v19 + (2 * (rtD G A z (rtU G A z k) k / oi z))) (fun (σ20 : Mem) => gL σ20 76 (i32 k) (fun (v21 : Int64) => (f_X4_put σ20 74 (i32 k) v21).bind (fun (σ22 : Mem) => some (Sum.inl (σ22, (i32 k) + 1)))))))) else (some (Sum.inr (Sum.inr (false, (wL τ10 77 k (oi (mul G (SQ G (rtU G A z k)) (rtU G A z k) k))))))))) else (some (Sum.inr (Sum.inr (false, (wL τ10 77 k (oi (mul G (SQ G (rtU G A z k)) (rtU G A z k) k)))))))) = y → l_X0_extract_11 x1 (oi z) τ (i32 k) = y := by
    intro y hy
    unfold l_X0_extract_11
    rw [i32_6, if_neg (i_nle (by omega) (by omega)), show (0 : Int64) = oi 0 from rfl, e5, e_bs, e_gR ln_44 (by omega) (by omega), rf_44 hk, v7, e_bs, e_pL ln_76 hk (by omega), e_gL ln_76 hk (by omega), wL_2, if_pos ⟨rfl, rfl⟩]
    rw [show mul G (rtU G A z k) (rtU G A z k) k = SQ G (rtU G A z k) k from rfl, e10, e_bs, e_gR ln_44 (by omega) (by omega), rf_44 hk, v12, e_bs, e_pL ln_77 hk (by omega), e_gL hx1 hk (by omega), hA13, hpa, e_bs, e_bd, oi_sub, e_nzL (oiz_ne hz), e_bd]
    exact hy
  generalize wL τ10 77 k (oi (mul G (SQ G (rtU G A z k)) (rtU G A z k) k)) = τ13 at P13 T13 W13 a76 b75 hbody
  by_cases hr : rtOK G A z k
  · have hE : rtD G A z (rtU G A z k) k / oi z = oi (rtE G A z (rtU G A z k) k) := oi_toInt'.symm
    have hr' : rtD G A z (rtU G A z k) k / oi z * oi z = rtD G A z (rtU G A z k) k := hr
    rw [if_pos hr', hE] at hbody
    by_cases hi1 : oi (rtE G A z (rtU G A z k) k) < -999
    · exact ⟨τ13, P13, Or.inr ⟨fun q => Int64.not_le.mpr hi1 q.2.1, hbody _ (by rw [if_pos hi1])⟩⟩
    rw [if_neg hi1] at hbody
    by_cases hi2 : oi (rtE G A z (rtU G A z k) k) ≤ 999
    · rw [if_pos hi2] at hbody
      have hin : rtIn G A z k := ⟨Int64.not_lt.mp hi1, hi2⟩
      have hEI : (oi (rtE G A z (rtU G A z k) k)).toInt = rtE G A z (rtU G A z k) k := by
        rw [← hE]; rfl
      have hb1 : -999 ≤ rtE G A z (rtU G A z k) k := by
        have := Int64.le_iff_toInt_le.mp hin.1
        rw [hEI] at this
        exact this
      have hb2 : rtE G A z (rtU G A z k) k ≤ 999 := by
        have := Int64.le_iff_toInt_le.mp hin.2
        rw [hEI] at this
        exact this
      have hE0 : gn G ≤ k → rtE G A z (rtU G A z k) k = 0 := fun hnk => by
        have w0 : gw G k = 0 := hG.2.2.2.2.1 k hnk
        unfold rtE rtD
        rw [Q_one hG (by omega), rk0, zA k hnk hk, Int.zero_mul]
        show ((0 : Int64) / oi z).toInt = 0
        rw [Int64.zero_div]; rfl
      have hR' : rtU G A z (k + 1) = uV (rtU G A z k) k (rtE G A z (rtU G A z k) k) := rfl
      have hRk : rtU G A z (k + 1) k = rtE G A z (rtU G A z k) k := by rw [hR']; unfold uV; rw [if_pos rfl]
      have hRi : ∀ i, i ≠ k → rtU G A z (k + 1) i = rtU G A z k i := fun i hi => by rw [hR']; unfold uV; rw [if_neg hi]
      have hSk : SQ G (rtU G A z (k + 1)) k = SQ G (rtU G A z k) k + 2 * rtE G A z (rtU G A z k) k := by
        rcases sq_below hG (r := rtU G A z k) (r' := rtU G A z (k + 1)) (m := k) (fun i hi => (hRi i (by omega)).symm) with h1 | h1
        · have : mul G (rtU G A z (k + 1)) (rtU G A z (k + 1)) k = mul G (rtU G A z k) (rtU G A z k) k + 2 * rtE G A z (rtU G A z k) k := by
            rw [h1, hRk, rk0, Int.sub_zero]
          exact this
        · show mul G _ _ k = mul G _ _ k + _
          rw [mul_beyond hG (by omega), mul_beyond hG (by omega), hRk, rk0, hE0 (by omega)]; rfl
      have hSi : ∀ i, i < k → SQ G (rtU G A z (k + 1)) i = SQ G (rtU G A z k) i := fun i hi => by
        rcases sq_below hG (r := rtU G A z k) (r' := rtU G A z (k + 1)) (m := i) (fun j hj => (hRi j (by omega)).symm) with h1 | h1
        · have : mul G (rtU G A z (k + 1)) (rtU G A z (k + 1)) i = mul G (rtU G A z k) (rtU G A z k) i := by
            rw [h1, hRi i (by omega)]; omega
          exact this
        · show mul G _ _ i = mul G _ _ i
          rw [mul_beyond hG (by omega), mul_beyond hG (by omega), hRi i (by omega)]
      obtain ⟨τ18, e18, o18, q18, T18, W18⟩ := c_putRoot (σ := τ13) (k := k) (y := rtE G A z (rtU G A z k) k) hk (fun _ => ⟨by omega, by omega⟩) T13 W13
      have a18 : τ18.2 76 k = oi (SQ G (rtU G A z k) k) := by rw [o18.2 76 (by omega)]; exact a76
      have O20 : OL (fun x => x = 76) τ18 (wL τ18 76 k (oi (SQ G (rtU G A z (k + 1)) k))) := OL.wL rfl
      obtain ⟨τ22, e22, o22, W22⟩ := c_putT (σ := wL τ18 76 k (oi (SQ G (rtU G A z (k + 1)) k))) (t := 74) (v := k) (y := SQ G (rtU G A z (k + 1)) k) ln_74 (by omega) (fun hw => by
        rw [Nat.mod_eq_of_lt hk] at hw
        rw [hSk, sq1 hw]; exact ⟨by omega, by omega⟩) (W18.keep O20 (by omega))
      have OF : OL (fun x => x = 73 ∨ x = 74 ∨ x = 75 ∨ x = 76 ∨ x = 77) σ τ22 := P13.trans ((o18.mono (fun x hx => by omega)).trans ((O20.mono (fun x hx => by omega)).trans (o22.mono (fun x hx => by omega))))
      refine ⟨τ22, OF, Or.inl ⟨hr, hin, hbody _ ?_, OF, ?_, ?_, ?_, ?_⟩⟩
      · have hsum : oi (SQ G (rtU G A z k) k) + 2 * oi (rtE G A z (rtU G A z k) k) = oi (SQ G (rtU G A z (k + 1)) k) := by
          rw [show (2 : Int64) = oi 2 from rfl, oi_mul, oi_add, hSk]
        rw [e18, e_bs, e_gL ln_76 hk (by omega), e_pL ln_76 hk (by omega), a18, hsum, e_gL ln_76 hk (by omega), wL_2, if_pos ⟨rfl, rfl⟩, e22, e_bs, i32_1, i32_add]
      · intro i hi
        rw [o22.2 75 (by omega), O20.2 75 (by omega), q18]
        by_cases h1 : i = k
        · rw [if_pos h1, h1, hRk]
        · rw [if_neg h1, b75, if_neg h1, hRi i h1]
          exact h75 i (by omega)
      · refine ((T18.keep O20 (by omega)).keep o22 (by omega)).mono (fun v hv hvk => ⟨by omega, ?_⟩)
        unfold upx
        by_cases h1 : v = 6 + k
        · rw [if_pos h1, two6_r (by omega), h1, show 6 + k - 6 = k by omega, hRk]
        · rw [if_neg h1]
          by_cases h2 : v = k
          · rw [if_pos h2, two6_l (by omega), h2, hRk]
          · rw [if_neg h2]
            by_cases h3 : v < 6
            · rw [two6_l h3, two6_l h3, hRi v h2]
            · rw [two6_r (by omega), two6_r (by omega), hRi _ (by omega)]
      · refine W22.mono (fun v hv hvk => ⟨by omega, ?_⟩)
        unfold upx
        by_cases h2 : v = k
        · rw [if_pos h2, two6_l (by omega), h2]
        · rw [if_neg h2]
          by_cases h1 : v = 6 + k
          · rw [if_pos h1, two6_r (by omega), h1, show 6 + k - 6 = k by omega, hRk]
          · rw [if_neg h1]
            by_cases h3 : v < 6
            · rw [two6_l h3, two6_l h3, hSi v (by omega)]
            · rw [two6_r (by omega), two6_r (by omega), hRi _ (by omega)]
      · intro i hi
        by_cases h1 : i = k
        · rw [h1]; exact ⟨hr, hin⟩
        · exact hok i (by omega)
    · exact ⟨τ13, P13, Or.inr ⟨fun q => hi2 q.2.2, hbody _ (by rw [if_neg hi2])⟩⟩
  · exact ⟨τ13, P13, Or.inr ⟨fun q => hr q.1, hbody _ (by rw [if_neg (show ¬ rtD G A z (rtU G A z k) k / oi z * oi z = rtD G A z (rtU G A z k) k from hr)])⟩⟩
theorem c_extract (hG : GOK G) {out x1 : Nat} {A : Nat → Int} {z : Int} {m : Int64} (hP : PolyOK G σ) (hout : ln out = 6) (hx1 : ln x1 = 6) (hA : H6 σ x1 A) (zA : Z6 G A) (hx : x1 ≠ 73 ∧ x1 ≠ 74 ∧ x1 ≠ 75 ∧ x1 ≠ 76 ∧ x1 ≠ 77) (hm : m = oi z) (hz : 1 ≤ z ∧ z ≤ 99) :
    ∃ b τ, f_X0_extract σ out x1 m = some (b, τ) ∧ OL (fun x => x = 73 ∨ x = 74 ∨ x = 75 ∨ x = 76 ∨ x = 77 ∨ x = out) σ τ ∧ (b = true ↔ ∀ k, k < 6 → rtOK G A z k ∧ rtIn G A z k) ∧ (b = true → H6 τ out (rtU G A z 6)) := by
  subst hm
  unfold f_X0_extract
  have h1 : (1 : Int64) ≤ oi z := by
    rw [Int64.le_iff_toInt_le, oi_toInt (by omega) (by omega)]
    exact hz.1
  rw [if_pos h1]
  have hl := loop_inv (body := fun (z4 : Mem × Int32) => l_X0_extract_11 x1 (oi z) z4.1 z4.2) (fun n s => ∃ k τ, k ≤ 6 ∧ n = 6 - k ∧ s = (τ, i32 k) ∧ RtI G σ τ A z k) (fun r => (∃ τ, r = Sum.inl τ ∧ RtI G σ τ A z 6) ∨ ∃ τ, r = Sum.inr (false, τ) ∧ OL (fun x => x = 73 ∨ x = 74 ∨ x = 75 ∨ x = 76 ∨ x = 77) σ τ ∧ ¬ ∀ k, k < 6 → rtOK G A z k ∧ rtIn G A z k) ?_ 6 (σ, 0) ⟨0, σ, by omega, rfl, rfl, OL.refl, fun i h => absurd h (Nat.not_lt_zero _), fun v _ h => absurd h (Nat.not_lt_zero _), fun v _ h => absurd h (Nat.not_lt_zero _), fun i h => absurd h (Nat.not_lt_zero _)⟩
  · obtain ⟨r, e, ⟨τ, rfl, hI⟩ | ⟨τ, rfl, o, hno⟩⟩ := hl
    · rw [e]
      show ∃ b υ, j_X0_extract_185 out τ = some (b, υ) ∧ _
      unfold j_X0_extract_185
      obtain ⟨ho, h75, _, _, hok⟩ := hI
      obtain ⟨υ, e2, o2, r2⟩ := c_copy (σ := τ) (a := 75) (b := out) (A := rtU G A z 6) ln_75 hout (fun k hk => h75 k hk)
      rw [e2, e_bs]
      exact ⟨true, υ, rfl, (ho.mono (fun x hx => by omega)).trans (o2.mono (fun x hx => by omega)), ⟨fun _ => hok, fun _ => rfl⟩, fun _ => r2⟩
    · rw [e]
      exact ⟨false, τ, rfl, o.mono (fun x hx => by omega), ⟨fun q => absurd q (by decide), fun q => absurd q hno⟩, fun q => absurd q (by decide)⟩
  · rintro n s ⟨k, τ, hk, hn, rfl, hI⟩
    by_cases hk6 : k = 6
    · right
      refine ⟨Sum.inl τ, ?_, Or.inl ⟨τ, rfl, hk6 ▸ hI⟩⟩
      show l_X0_extract_11 _ _ _ _ = _
      unfold l_X0_extract_11
      rw [hk6, i32_6, if_pos (i_le (Nat.le_refl 6) (by omega))]
    · obtain ⟨υ, o, ⟨h1, h2, h3, h4⟩ | ⟨h1, h3⟩⟩ := c_rootStep hG hP hx1 hA zA hx hz (show k < 6 by omega) hI
      · left
        exact ⟨(υ, i32 (k + 1)), 6 - (k + 1), by omega, h3, k + 1, υ, by omega, rfl, rfl, h4⟩
      · right
        exact ⟨Sum.inr (false, υ), h3, Or.inr ⟨υ, rfl, o, fun q => h1 (q k (by omega))⟩⟩
/-- beyond the group nothing is left -/
theorem rt_all (hG : GOK G) {A : Nat → Int} {z : Int} (zA : Z6 G A) : (∀ k, k < 6 → rtOK G A z k ∧ rtIn G A z k) ↔ ((∀ k, k < gn G → rtOK G A z k) ∧ isEl G (rtU G A z (gn G)) = true) := by
  have hn := hG.2.1
  unfold isEl
  rw [decide_eq_true_eq]
  have e : ∀ k, k < gn G → ((-999 ≤ oi (rtU G A z (gn G) k) ∧ oi (rtU G A z (gn G) k) ≤ 999) ↔ rtIn G A z k) := fun k hk => by
    rw [rtU_at hk]; exact Iff.rfl
  constructor
  · intro h
    exact ⟨fun k hk => (h k (by omega)).1, fun k hk => (e k hk).mpr (h k (by omega)).2⟩
  · intro h k hk
    by_cases h1 : k < gn G
    · exact ⟨h.1 k h1, (e k h1).mp (h.2 k h1)⟩
    · have w0 : gw G k = 0 := hG.2.2.2.2.1 k (by omega)
      have hD : rtD G A z (rtU G A z k) k = 0 := by
        unfold rtD
        rw [Q_one hG (by omega), rtU_beyond k (Nat.le_refl k), zA k (by omega) hk, Int.zero_mul]; rfl
      have hEz : rtE G A z (rtU G A z k) k = 0 := by
        unfold rtE
        rw [hD, Int64.zero_div]; rfl
      refine ⟨?_, ?_⟩
      · unfold rtOK
        rw [hD, Int64.zero_div, Int64.zero_mul]
      · unfold rtIn
        rw [hEz]; decide
theorem rtU_6 (hG : GOK G) {A : Nat → Int} {z : Int} (zA : Z6 G A) : ∀ k, k < 6 → rtU G A z 6 k = rtU G A z (gn G) k := fun k hk => by
  have hn := hG.2.1
  by_cases h1 : k < gn G
  · rw [rtU_at h1, rtU_at hk]
  · rw [rtU_beyond (gn G) (by omega), rtU_at hk]
    have w0 : gw G k = 0 := hG.2.2.2.2.1 k (by omega)
    unfold rtE rtD
    rw [Q_one hG (by omega), rtU_beyond k (Nat.le_refl k), zA k (by omega) hk, Int.zero_mul]
    show ((0 : Int64) / oi z).toInt = 0
    rw [Int64.zero_div]; rfl
end CR
end
section
/-! collecting: what one exchange leaves as it is -/
section CO
variable {G : GD}
theorem two_one : two 1 = 0 := rfl
theorem addL_more (hG : GOK G) {v : Nat → Int} {i j m : Nat} (hj : j < gn G) (hv : ∀ q, j < q → v q = 0) :
    addL G (fun k => v k + if k = j then 1 else 0) i 1 m = addL G v i 1 m + tI G j i m + sm (fun p => DD G m p i j * v p) (gn G) := by
  have ed : tI G j i m = sm (fun y => if j = y then tI G j i m else 0) (gn G) := (sm_delta (g := fun _ => tI G j i m) hj).symm
  unfold addL
  rw [ed, sm_add, sm_add]
  refine sm_congr (fun p hp => ?_)
  rw [two_one]
  have inner : sm (fun q => if p < q then DD G m p i q * (v p + if p = j then 1 else 0) * (v q + if q = j then 1 else 0) * 1 else 0) (gn G) = sm (fun q => if p < q then DD G m p i q * v p * v q * 1 else 0) (gn G) + (if p < j then DD G m p i j * v p else 0) := by
    have ed2 : (if p < j then DD G m p i j * v p else 0) = sm (fun q => if j = q then (if p < j then DD G m p i j * v p else 0) else 0) (gn G) := (sm_delta (g := fun _ => if p < j then DD G m p i j * v p else 0) hj).symm
    rw [ed2, sm_add]
    refine sm_congr (fun q hq => ?_)
    by_cases h1 : p < q
    · rw [if_pos h1, if_pos h1]
      by_cases h2 : j = q
      · subst h2
        rw [if_pos rfl, if_pos rfl, if_pos h1, if_neg (show ¬ p = j by omega), Int.add_zero, Int.mul_one, Int.mul_one, Int.mul_add, Int.mul_one]
      · rw [if_neg h2, if_neg (show ¬ q = j by omega), Int.add_zero, Int.add_zero]
        by_cases h3 : p = j
        · subst h3
          rw [hv q h1]; simp
        · rw [if_neg h3, Int.add_zero]
    · rw [if_neg h1, if_neg h1]
      by_cases h2 : j = q
      · rw [if_pos h2, if_neg (by omega)]; rfl
      · rw [if_neg h2]; rfl
  rw [inner]
  dsimp only
  by_cases h1 : p = j
  · subst h1
    rw [if_pos rfl, if_pos rfl, if_neg (Nat.lt_irrefl p), two_add, two_one]
    simp only [Int.mul_add, Int.mul_one, Int.mul_zero, Int.add_zero, Int.zero_add]
    omega
  · rw [if_neg h1, if_neg (show ¬ j = p by omega), Int.add_zero]
    by_cases h2 : p < j
    · rw [if_pos h2]; omega
    · rw [if_neg h2, hv p (by omega)]; simp
theorem addL_after (hG : GOK G) {v : Nat → Int} {i j m : Nat} (hi : i < j) (hj : j < gn G) (hv : ∀ q, j < q → v q = 0) :
    addL G (TL G v i 1) j 1 m = sm (fun p => DD G m p i j * v p) (gn G) := by
  have hlow : ∀ q, j < q → gw G q ≤ 1 → TL G v i 1 q = 0 := fun q hq hw => by
    rw [TL_eq hG (by omega), hv q hq, if_neg (by omega), addL_low hG (by omega), sm_zero]
    · rfl
    · intro p hp
      by_cases h : tI G p i q = 0
      · rw [h]; simp
      · have h1 := tI_ne hG h
        have w1 := (hG.2.2.1 i (by omega)).1
        have w2 := (hG.2.2.1 p (by omega)).1
        omega
  have e : ∀ p, p < gn G → (tI G p j m * TL G v i 1 p * 1 + (DD G m p j j * TL G v i 1 p * two 1 + DD G m p j p * 1 * two (TL G v i 1 p) + sm (fun q => if p < q then DD G m p j q * TL G v i 1 p * TL G v i 1 q * 1 else 0) (gn G))) = sm (fun q => tI G q i p * tI G p j m * v q) (gn G) := by
    intro p hp
    have d0 : ∀ q, DD G m p j q * TL G v i 1 p = 0 := fun q => by
      by_cases h : DD G m p j q = 0
      · rw [h, Int.zero_mul]
      · have h2 : j < p ∧ gw G j = 1 ∧ gw G p = 1 ∧ gw G q = 1 ∧ gw G m = 3 ∧ p < gn G := Classical.byContradiction (fun z => h (DD_0 hG z))
        rw [hlow p h2.1 (by omega), Int.mul_zero]
    have d1 : DD G m p j p * 1 * two (TL G v i 1 p) = 0 := by
      by_cases h : DD G m p j p = 0
      · rw [h]; simp
      · have h2 : j < p ∧ gw G j = 1 ∧ gw G p = 1 ∧ gw G p = 1 ∧ gw G m = 3 ∧ p < gn G := Classical.byContradiction (fun z => h (DD_0 hG z))
        rw [hlow p h2.1 (by omega)]; simp [two]
    rw [d0, d1, sm_zero (fun q _ => by rw [d0]; split <;> simp)]
    by_cases h : tI G p j m = 0
    · rw [h, sm_zero (fun q _ => by simp)]; simp
    · have h1 := tI_ne hG h
      have w4 := (hG.2.2.1 m (by omega)).2
      have w1 := (hG.2.2.1 j hj).1
      rw [TL_eq hG (by omega), hv p h1.1, if_neg (by omega), addL_low hG (by omega)]
      simp only [Int.zero_add, Int.mul_one, Int.mul_zero, Int.add_zero, Int.zero_mul]
      rw [sm_mul]
      refine sm_congr (fun q _ => ?_)
      simp only [Int.mul_assoc, Int.mul_comm, Int.mul_left_comm]
  unfold addL
  rw [sm_congr e, sm_swap]
  refine sm_congr (fun q _ => ?_)
  unfold DD
  rw [sm_mulr]
theorem TL_swap (hG : GOK G) {v : Nat → Int} {i j : Nat} (hi : i < j) (hj : j < gn G) (hv : ∀ q, j < q → v q = 0) (m : Nat) :
    TL G (fun k => v k + if k = j then 1 else 0) i 1 m = TL G (TL G v i 1) j 1 m + tI G j i m := by
  rw [TL_eq hG (by omega), TL_eq hG hj, TL_eq hG (by omega) (v := v), addL_more hG hj hv, addL_after hG hi hj hv]
  omega
theorem TL_heavy {v : Nat → Int} {i m : Nat} {y : Int} (h : gw G i ≠ 1) : TL G v i y m = v m + if m = i then y else 0 := by
  unfold TL; rw [if_neg h, Int.add_zero]
theorem TL_top (hG : GOK G) {v : Nat → Int} {i m : Nat} {y : Int} (hi : i < gn G) (hv : ∀ q, i < q → v q = 0) : TL G v i y m = v m + if m = i then y else 0 := by
  rw [TL_eq hG hi]
  have : addL G v i y m = 0 := sm_zero (fun p _ => by
    by_cases h : i < p
    · rw [hv p h]; simp [two]
      exact sm_zero (fun q _ => rfl)
    · have d : ∀ q, DD G m p i q = 0 := fun q => DD_0 hG (by omega)
      have t : tI G p i m = 0 := Classical.byContradiction (fun z => by have := tI_ne hG z; omega)
      rw [t, d, d, sm_zero (fun q _ => by rw [d]; split <;> simp)]; simp)
  rw [this, Int.add_zero]
end CO
end
section
/-! collecting, as lists: what is sorted (its last letter first), what waits -/
section MA
variable {G : GD}
def cnt (S : List Nat) (m : Nat) : Int := (S.count m : Int)
def TLs (G : GD) (v : Nat → Int) (W : List Nat) : Nat → Int := W.foldl (fun v i => TL G v i 1) v
/-- the letters that an exchange brings: the last d generators' -/
def twD (G : GD) (j i : Nat) : Nat → List Nat
  | 0 => []
  | d + 1 => List.replicate (gt G j i (gn G - 1 - d)) (gn G - 1 - d) ++ twD G j i d
def tw (G : GD) (j i : Nat) : List Nat := twD G j i (gn G - 1 - j)
def run (G : GD) (L : Nat) : Nat → List Nat → List Nat → Nat → Option (List Nat × Nat)
  | 0, _, _, _ => none
  | _ + 1, S, [], ex => some (S, ex)
  | f + 1, [], i :: W, ex => run G L f [i] W ex
  | f + 1, j :: S, i :: W, ex => if j ≤ i then run G L f (i :: j :: S) W ex else if ex = L then none else run G L f S (i :: j :: (tw G j i ++ W)) (ex + 1)
theorem twD_count {j i m : Nat} : ∀ d, d ≤ gn G - 1 - j → (twD G j i d).count m = if gn G - d ≤ m ∧ m < gn G then gt G j i m else 0 := by
  intro d
  induction d with
  | zero => intro _; rw [if_neg (by omega)]; rfl
  | succ d ih =>
    intro hd
    show (List.replicate _ _ ++ twD G j i d).count m = _
    rw [List.count_append, ih (by omega), List.count_replicate]
    by_cases h1 : m = gn G - 1 - d
    · subst h1
      rw [if_pos (by rw [beq_self_eq_true]), if_neg (by omega), if_pos (by omega)]
      omega
    · rw [if_neg (by rw [beq_iff_eq]; omega)]
      by_cases h2 : gn G - d ≤ m ∧ m < gn G
      · rw [if_pos h2, if_pos (by omega)]; omega
      · rw [if_neg h2, if_neg (by omega)]
theorem tw_count (hG : GOK G) {j i m : Nat} (hj : j < gn G) : cnt (tw G j i) m = tI G j i m := by
  unfold cnt tw
  rw [twD_count _ (Nat.le_refl _)]
  by_cases h : gn G - (gn G - 1 - j) ≤ m ∧ m < gn G
  · rw [if_pos h]
  · rw [if_neg h]
    have : tI G j i m = 0 := Classical.byContradiction (fun z => by have := tI_ne hG z; omega)
    exact this.symm
theorem tw_mem {j i x : Nat} (hj : j < gn G) (h : x ∈ tw G j i) : j < x ∧ x < gn G ∧ gt G j i x ≠ 0 := by
  have h1 := List.count_pos_iff.mpr h
  unfold tw at h1
  rw [twD_count _ (Nat.le_refl _)] at h1
  by_cases h2 : gn G - (gn G - 1 - j) ≤ x ∧ x < gn G
  · rw [if_pos h2] at h1; exact ⟨by omega, h2.2, by omega⟩
  · rw [if_neg h2] at h1; omega
theorem tw_len (hG : GOK G) {j i : Nat} : ∀ d, (twD G j i d).length ≤ 3 * d := by
  intro d
  induction d with
  | zero => exact Nat.le_refl 0
  | succ d ih =>
    show (List.replicate _ _ ++ twD G j i d).length ≤ _
    rw [List.length_append, List.length_replicate]
    have := hG.2.2.2.2.2.1 j i (gn G - 1 - d)
    omega
theorem tw_len12 (hG : GOK G) {j i : Nat} (h : i < j) : (tw G j i).length ≤ 12 := by
  have h1 := tw_len hG (j := j) (i := i) (gn G - 1 - j)
  have h2 := hG.2.1
  unfold tw
  omega
/-- enough fuel is enough -/
theorem run_fuel (hG : GOK G) {L : Nat} : ∀ f f' S W ex, ex ≤ L → 14 * (L - ex) + W.length < f → 14 * (L - ex) + W.length < f' → run G L f S W ex = run G L f' S W ex := by
  intro f
  induction f with
  | zero => intro f' S W ex _ h; omega
  | succ f ih =>
    intro f' S W ex hex h h'
    cases f' with
    | zero => omega
    | succ f' =>
      cases W with
      | nil => simp only [run]
      | cons i W =>
        simp only [List.length_cons] at h h'
        cases S with
        | nil => simp only [run]; exact ih f' _ _ _ hex (by omega) (by omega)
        | cons j S =>
          simp only [run]
          by_cases h1 : j ≤ i
          · rw [if_pos h1, if_pos h1]; exact ih f' _ _ _ hex (by omega) (by omega)
          · rw [if_neg h1, if_neg h1]
            by_cases h2 : ex = L
            · rw [if_pos h2, if_pos h2]
            · rw [if_neg h2, if_neg h2]
              have h3 := tw_len12 hG (j := j) (i := i) (by omega)
              have h4 : (i :: j :: (tw G j i ++ W)).length = 2 + (tw G j i).length + W.length := by
                simp only [List.length_cons, List.length_append]; omega
              exact ih f' _ _ _ (by omega) (by omega) (by omega)
/-- collecting to its end -/
def col (G : GD) (L : Nat) (S W : List Nat) (ex : Nat) : Option (List Nat × Nat) := run G L (14 * (L - ex) + W.length + 1) S W ex
theorem col_nil {L : Nat} {S : List Nat} {ex : Nat} : col G L S [] ex = some (S, ex) := by unfold col; simp only [run]
theorem col_first (hG : GOK G) {L i : Nat} {W : List Nat} {ex : Nat} (hex : ex ≤ L) : col G L [] (i :: W) ex = col G L [i] W ex := by
  unfold col
  simp only [run, List.length_cons]
  exact run_fuel hG _ _ _ _ _ hex (by omega) (by omega)
theorem col_move (hG : GOK G) {L i j : Nat} {S W : List Nat} {ex : Nat} (hex : ex ≤ L) (h : j ≤ i) : col G L (j :: S) (i :: W) ex = col G L (i :: j :: S) W ex := by
  unfold col
  simp only [run, List.length_cons]
  rw [if_pos h]
  exact run_fuel hG _ _ _ _ _ hex (by omega) (by omega)
theorem col_limit {L i j : Nat} {S W : List Nat} (h : i < j) : col G L (j :: S) (i :: W) L = none := by
  unfold col
  simp only [run, List.length_cons]
  rw [if_neg (by omega), if_pos trivial]
theorem col_exch (hG : GOK G) {L i j : Nat} {S W : List Nat} {ex : Nat} (hex : ex < L) (h : i < j) : col G L (j :: S) (i :: W) ex = col G L S (i :: j :: (tw G j i ++ W)) (ex + 1) := by
  unfold col
  simp only [run, List.length_cons]
  rw [if_neg (by omega), if_neg (by omega)]
  have h3 := tw_len12 hG (j := j) (i := i) (by omega)
  refine run_fuel hG _ _ _ _ _ (by omega) ?_ ?_
  · simp only [List.length_cons, List.length_append]; omega
  · simp only [List.length_cons, List.length_append]; omega
/-- heavy letters alone -/
theorem TLs_heavy {W : List Nat} : ∀ v : Nat → Int, (∀ x, x ∈ W → gw G x ≠ 1) → TLs G v W = fun m => v m + cnt W m := by
  induction W with
  | nil => intro v _; funext m; show v m = v m + 0; omega
  | cons i W ih =>
    intro v h
    show TLs G (TL G v i 1) W = _
    rw [ih _ (fun x hx => h x (List.mem_cons_of_mem _ hx))]
    funext m
    rw [TL_heavy (h i (List.mem_cons_self ..))]
    unfold cnt
    rw [List.count_cons]
    by_cases h1 : m = i
    · rw [if_pos h1, if_pos (by rw [beq_iff_eq]; omega)]; omega
    · rw [if_neg h1, if_neg (by rw [beq_iff_eq]; omega)]; omega
theorem TLs_append {v : Nat → Int} {A B : List Nat} : TLs G v (A ++ B) = TLs G (TLs G v A) B := List.foldl_append ..
theorem cnt_cons {j : Nat} {S : List Nat} : cnt (j :: S) = fun k => cnt S k + if k = j then 1 else 0 := by
  funext k
  unfold cnt
  rw [List.count_cons]
  by_cases h1 : k = j
  · rw [if_pos h1, if_pos (by rw [beq_iff_eq]; omega)]; omega
  · rw [if_neg h1, if_neg (by rw [beq_iff_eq]; omega)]; omega
/-- sorted: the last letter is the greatest -/
def Srt (S : List Nat) : Prop := S.Pairwise (fun a b => b ≤ a)
theorem cnt_above {S : List Nat} {i q : Nat} (h : ∀ x, x ∈ S → x ≤ i) (hq : i < q) : cnt S q = 0 := by
  unfold cnt
  rw [List.count_eq_zero_of_not_mem (fun z => by have := h q z; omega)]; rfl
theorem run_val (hG : GOK G) {L : Nat} : ∀ f S W ex S' e, Srt S → (∀ x, x ∈ S → x < gn G) → (∀ x, x ∈ W → x < gn G) → run G L f S W ex = some (S', e) → cnt S' = TLs G (cnt S) W ∧ Srt S' ∧ (∀ x, x ∈ S' → x < gn G) := by
  intro f
  induction f with
  | zero => intro S W ex S' e _ _ _ h; simp [run] at h
  | succ f ih =>
    intro S W ex S' e hS hs hw h
    cases W with
    | nil =>
      simp only [run, Option.some.injEq, Prod.mk.injEq] at h
      obtain ⟨rfl, rfl⟩ := h
      exact ⟨rfl, hS, hs⟩
    | cons i W =>
      have hi := hw i (List.mem_cons_self ..)
      have hw' : ∀ x, x ∈ W → x < gn G := fun x hx => hw x (List.mem_cons_of_mem _ hx)
      cases S with
      | nil =>
        simp only [run] at h
        obtain ⟨h1, h2⟩ := ih [i] W ex S' e (List.pairwise_singleton ..) (fun x hx => by rw [List.mem_singleton.mp hx]; exact hi) hw' h
        refine ⟨?_, h2⟩
        rw [h1]
        show TLs G _ W = TLs G (TL G (cnt []) i 1) W
        congr 1
        rw [cnt_cons]
        funext m
        exact (TL_top hG hi (v := cnt []) (fun q _ => rfl)).symm
      | cons j S =>
        simp only [run] at h
        have hj := hs j (List.mem_cons_self ..)
        have hjS : ∀ x, x ∈ S → x ≤ j := (List.pairwise_cons.mp hS).1
        by_cases h1 : j ≤ i
        · rw [if_pos h1] at h
          have hall : ∀ x, x ∈ j :: S → x ≤ i := fun x hx => by
            rcases List.mem_cons.mp hx with h2 | h2
            · omega
            · have := hjS x h2; omega
          obtain ⟨h3, h4⟩ := ih (i :: j :: S) W ex S' e (List.pairwise_cons.mpr ⟨hall, hS⟩) (fun x hx => by
            rcases List.mem_cons.mp hx with h2 | h2
            · rw [h2]; exact hi
            · exact hs x h2) hw' h
          refine ⟨?_, h4⟩
          rw [h3]
          show TLs G _ W = TLs G (TL G (cnt (j :: S)) i 1) W
          congr 1
          rw [cnt_cons]
          funext m
          rw [TL_top hG hi (fun q hq => cnt_above hall hq)]
        · rw [if_neg h1] at h
          by_cases h2 : ex = L
          · rw [if_pos h2] at h; cases h
          · rw [if_neg h2] at h
            obtain ⟨h3, h4⟩ := ih S (i :: j :: (tw G j i ++ W)) (ex + 1) S' e (List.pairwise_cons.mp hS).2 (fun x hx => hs x (List.mem_cons_of_mem _ hx)) (fun x hx => by
              rcases List.mem_cons.mp hx with h5 | h5
              · rw [h5]; exact hi
              · rcases List.mem_cons.mp h5 with h6 | h6
                · rw [h6]; exact hj
                · rcases List.mem_append.mp h6 with h7 | h7
                  · exact (tw_mem hj h7).2.1
                  · exact hw' x h7) h
            refine ⟨?_, h4⟩
            rw [h3]
            show TLs G (TL G (TL G (cnt S) i 1) j 1) (tw G j i ++ W) = TLs G (TL G (cnt (j :: S)) i 1) W
            rw [TLs_append, TLs_heavy (W := tw G j i) _ (fun x hx => by
              have h8 := tw_mem hj hx
              have h9 := hG.2.2.2.2.2.2 j i x h8.2.2
              have w1 := (hG.2.2.1 i (by omega)).1
              have w2 := (hG.2.2.1 j hj).1
              omega)]
            congr 1
            funext m
            rw [tw_count hG hj, cnt_cons, TL_swap hG (by omega) hj (fun q hq => cnt_above hjS hq)]
theorem col_val (hG : GOK G) {L : Nat} {W : List Nat} {S' : List Nat} {e : Nat} (hw : ∀ x, x ∈ W → x < gn G) (h : col G L [] W 0 = some (S', e)) : cnt S' = TLs G O W := by
  have := (run_val hG _ [] W 0 S' e List.Pairwise.nil (fun x hx => by cases hx) hw h).1
  rw [this]
  rfl
end MA
end
section
/-! the class's collector follows the machine -/
section CC
variable {G : GD} {σ : Mem}
/-- the class's rules at an address hold G -/
def CG (σ : Mem) (a : Nat) (G : GD) : Prop := σ.1 a 0 = i32 (gn G) ∧ (∀ i, i < 6 → σ.1 (a + 1) i = i32 (gw G i)) ∧ (∀ j i k, j < 6 → i < 6 → k < 6 → σ.1 (a + 2) ((j * 6 + i) * 6 + k) = i32 (gt G j i k))
/-- a stack, its top first -/
def stkA (σ : Mem) (r : Nat) : List Nat → Prop
  | [] => True
  | x :: S => σ.1 r S.length = i32 x ∧ stkA σ r S
def stk (σ : Mem) (c r : Nat) (S : List Nat) : Prop := σ.1 35 c = i32 S.length ∧ stkA σ r S
theorem stkA.keep {τ : Mem} {r : Nat} {S : List Nat} (h : ∀ p, p < S.length → τ.1 r p = σ.1 r p) (hs : stkA σ r S) : stkA τ r S := by
  induction S with
  | nil => trivial
  | cons x S ih =>
    refine ⟨?_, ih (fun p hp => h p (by simp only [List.length_cons]; omega)) hs.2⟩
    rw [h S.length (by simp only [List.length_cons]; omega)]
    exact hs.1
def FR (σ τ : Mem) : Prop := τ.2 = σ.2 ∧ (∀ x, x ≠ 35 → x ≠ 37 → x ≠ 38 → τ.1 x = σ.1 x) ∧ ∀ c, c ≠ 3 → c ≠ 5 → τ.1 35 c = σ.1 35 c
theorem FR.refl : FR σ σ := ⟨rfl, fun _ _ _ _ => rfl, fun _ _ _ => rfl⟩
theorem FR.trans {τ υ : Mem} (h : FR σ τ) (k : FR τ υ) : FR σ υ := ⟨k.1.trans h.1, fun x h1 h2 h3 => (k.2.1 x h1 h2 h3).trans (h.2.1 x h1 h2 h3), fun c h1 h2 => (k.2.2 c h1 h2).trans (h.2.2 c h1 h2)⟩
theorem CG.keep {τ : Mem} {a : Nat} (h : CG σ a G) (k : FR σ τ) (ha : a ≠ 35 ∧ a ≠ 37 ∧ a ≠ 38 ∧ a + 1 ≠ 35 ∧ a + 1 ≠ 37 ∧ a + 1 ≠ 38 ∧ a + 2 ≠ 35 ∧ a + 2 ≠ 37 ∧ a + 2 ≠ 38) : CG τ a G := by
  unfold CG
  rw [k.2.1 a ha.1 ha.2.1 ha.2.2.1, k.2.1 (a + 1) ha.2.2.2.1 ha.2.2.2.2.1 ha.2.2.2.2.2.1, k.2.1 (a + 2) ha.2.2.2.2.2.2.1 ha.2.2.2.2.2.2.2.1 ha.2.2.2.2.2.2.2.2]
  exact h
theorem c_read {a : Nat} (hG : GOK G) (h : CG σ a G) (hr : rf a 2 = a + 2) (hl : ln (a + 2) = 216) {j i k : Nat} (hj : j < 6) (hi : i < 6) (hk : k < 6) : f_X6_read σ a (i32 j) (i32 i) (i32 k) = some (i32 (gt G j i k)) := by
  have hn := hG.2.1
  unfold f_X6_read
  have ht : f_X6_isTail σ a (i32 j) (i32 i) (i32 k) = some (decide (i < j ∧ j < k ∧ k < gn G)) := by
    unfold f_X6_isTail
    rw [i32_0, if_neg (i_nlt (Nat.zero_le _) (by omega))]
    by_cases h1 : i < j
    · rw [if_neg (i_nle h1 (by omega))]
      by_cases h2 : j < k
      · rw [if_neg (i_nle h2 (by omega)), e_gF, h.1]
        by_cases h3 : k < gn G
        · rw [if_neg (i_nle h3 (by omega)), decide_eq_true ⟨h1, h2, h3⟩]; rfl
        · rw [if_pos (i_le (by omega) (by omega)), decide_eq_false (by omega)]; rfl
      · rw [if_pos (i_le (by omega) (by omega)), decide_eq_false (by omega)]; rfl
    · rw [if_pos (i_le (by omega) (by omega)), decide_eq_false (by omega)]; rfl
  rw [ht, e_bs]
  by_cases h1 : i < j ∧ j < k ∧ k < gn G
  · rw [decide_eq_true h1, if_pos rfl, i32_6, i32_mul, i32_add, i32_mul, i32_add, hr, e_gI hl (by omega) (by omega), h.2.2 j i k hj hi hk]
  · rw [decide_eq_false h1, if_neg (by decide)]
    have : gt G j i k = 0 := Classical.byContradiction (fun z => h1 (by have := hG.2.2.2.2.2.2 j i k z; omega))
    rw [this]; rfl
theorem c_putAhead {W : List Nat} {S : List Nat} {x : Nat} (hS : stk σ 3 37 S) (h : stk σ 5 38 W) (hl : W.length < 12076) : ∃ τ, f_X2_putAhead σ (i32 x) = some τ ∧ FR σ τ ∧ stk τ 3 37 S ∧ stk τ 5 38 (x :: W) := by
  unfold f_X2_putAhead
  have e1 : ¬ (12076 : Int32) ≤ i32 W.length := by
    rw [show (12076 : Int32) = i32 12076 from rfl]; exact i_nle hl (by omega)
  refine ⟨wI (wI σ 38 W.length (i32 x)) 35 5 (i32 (W.length + 1)), ?_, ⟨rfl, ?_, ?_⟩, ⟨?_, ?_⟩, ?_, ?_, ?_⟩
  · rw [e_gF, h.1, if_neg e1, e_gF, h.1, e_pI ln_38 hl (by omega), e_gF, e_pF, wI_1, if_neg (by omega), h.1, i32_1, i32_add]
  · intro y h1 _ h3
    funext k
    rw [wI_1, if_neg (by omega), wI_1, if_neg (by omega)]
  · intro c h1 h2
    rw [wI_1, if_neg (by omega), wI_1, if_neg (by omega)]
  · rw [wI_1, if_neg (by omega), wI_1, if_neg (by omega)]; exact hS.1
  · exact hS.2.keep (fun p _ => by rw [wI_1, if_neg (by omega), wI_1, if_neg (by omega)])
  · rw [wI_1, if_pos ⟨rfl, rfl⟩]; rfl
  · rw [wI_1, if_neg (by omega), wI_1, if_pos ⟨rfl, rfl⟩]
  · exact h.2.keep (fun p hp => by rw [wI_1, if_neg (by omega), wI_1, if_neg (by omega)])
theorem c_moveOn {W S : List Nat} {i : Nat} (hS : stk σ 3 37 S) (h : stk σ 5 38 (i :: W)) (hl : S.length < 12076) (hl2 : W.length < 12076) : ∃ τ, f_X2_moveOn σ (i32 i) = some τ ∧ FR σ τ ∧ stk τ 3 37 (i :: S) ∧ stk τ 5 38 W := by
  unfold f_X2_moveOn
  have e1 : ¬ (12076 : Int32) ≤ i32 S.length := by
    rw [show (12076 : Int32) = i32 12076 from rfl]; exact i_nle hl (by omega)
  have e2 : i32 (W.length + 1) - i32 1 = i32 W.length := i32_sub (by omega)
  have e3 : (wI σ 35 5 (i32 W.length)).1 35 3 = i32 S.length := by rw [wI_1, if_neg (by omega)]; exact hS.1
  have e4 : (wI (wI σ 35 5 (i32 W.length)) 37 S.length (i32 i)).1 35 3 = i32 S.length := by rw [wI_1, if_neg (by omega)]; exact e3
  refine ⟨wI (wI (wI σ 35 5 (i32 W.length)) 37 S.length (i32 i)) 35 3 (i32 (S.length + 1)), ?_, ⟨rfl, ?_, ?_⟩, ⟨?_, ?_, ?_⟩, ?_, ?_⟩
  · rw [e_gF, h.1, e_pF, show (1 : Int32) = i32 1 from rfl, List.length_cons, e2, e_gF, e3, if_neg e1, e_gF, e3, e_pI ln_37 hl (by omega), e_gF, e_pF, e4, i32_add]
  · intro y h1 h2 _
    funext k
    rw [wI_1, if_neg (by omega), wI_1, if_neg (by omega), wI_1, if_neg (by omega)]
  · intro c h1 h2
    rw [wI_1, if_neg (by omega), wI_1, if_neg (by omega), wI_1, if_neg (by omega)]
  · rw [wI_1, if_pos ⟨rfl, rfl⟩]; rfl
  · rw [wI_1, if_neg (by omega), wI_1, if_pos ⟨rfl, rfl⟩]
  · exact hS.2.keep (fun p hp => by rw [wI_1, if_neg (by omega), wI_1, if_neg (by omega), wI_1, if_neg (by omega)])
  · rw [wI_1, if_neg (by omega), wI_1, if_neg (by omega), wI_1, if_pos ⟨rfl, rfl⟩]
  · exact h.2.2.keep (fun p hp => by rw [wI_1, if_neg (by omega), wI_1, if_neg (by omega), wI_1, if_neg (by omega)])
/-- so many of one letter, put ahead -/
theorem c_putMany {W S : List Nat} {x t : Nat} (ht : t ≤ 3) (hS : stk σ 3 37 S) (h : stk σ 5 38 W) (hl : W.length + 3 < 12076) :
    ∃ τ, loopO (fun (z15 : Mem × Int32) => l_X2_exchange_44 (i32 x) z15.1 z15.2) (σ, i32 t) = some τ ∧ FR σ τ ∧ stk τ 3 37 S ∧ stk τ 5 38 (List.replicate t x ++ W) := by
  have hl' := loop_inv (body := fun (z15 : Mem × Int32) => l_X2_exchange_44 (i32 x) z15.1 z15.2) (fun n z => ∃ k τ, k ≤ t ∧ n = t - k ∧ z = (τ, i32 (t - k)) ∧ FR σ τ ∧ stk τ 3 37 S ∧ stk τ 5 38 (List.replicate k x ++ W)) (fun τ => FR σ τ ∧ stk τ 3 37 S ∧ stk τ 5 38 (List.replicate t x ++ W)) ?_ t (σ, i32 t) ⟨0, σ, by omega, by omega, rfl, FR.refl, hS, h⟩
  · exact hl'
  · rintro n z ⟨k, τ, hk, hn, rfl, f, s1, s2⟩
    by_cases hkt : k = t
    · right
      refine ⟨τ, ?_, f, s1, hkt ▸ s2⟩
      show l_X2_exchange_44 _ _ _ = _
      unfold l_X2_exchange_44
      rw [if_pos (show i32 (t - k) ≤ 0 from i_le (b := 0) (by omega) (by omega))]
    · left
      obtain ⟨υ, e, f2, s3, s4⟩ := c_putAhead (σ := τ) (x := x) s1 s2 (by rw [List.length_append, List.length_replicate]; omega)
      refine ⟨(υ, i32 (t - (k + 1))), t - (k + 1), by omega, ?_, k + 1, υ, by omega, rfl, rfl, f.trans f2, s3, s4⟩
      show l_X2_exchange_44 _ _ _ = _
      unfold l_X2_exchange_44
      rw [if_neg (show ¬ i32 (t - k) ≤ 0 from i_nle (b := 0) (by omega) (by omega)), e, e_bs]
      have e2 : i32 (t - k) + (-1) = i32 (t - (k + 1)) := by
        rw [show t - k = (t - (k + 1)) + 1 by omega, ← i32_add, ← i32_1, Int32.add_neg_eq_sub, Int32.add_sub_cancel]
      rw [e2]
end CC
end
section
/-! the class's exchange and its whole run -/
section CD
variable {G : GD} {σ : Mem}
/-- an address of rules -/
def RA (a : Nat) : Prop := (rf a 2 = a + 2 ∧ ln (a + 2) = 216) ∧ (a ≠ 35 ∧ a ≠ 37 ∧ a ≠ 38 ∧ a + 1 ≠ 35 ∧ a + 1 ≠ 37 ∧ a + 1 ≠ 38 ∧ a + 2 ≠ 35 ∧ a + 2 ≠ 37 ∧ a + 2 ≠ 38)
theorem c_exchange {a : Nat} (hG : GOK G) (ra : RA a) (h : CG σ a G) {i j : Nat} {S W : List Nat} (hi : i < j) (hj : j < gn G) (hS : stk σ 3 37 (j :: S)) (hW : stk σ 5 38 (i :: W)) (hl : W.length + 20 < 12076) (hl2 : S.length < 12076) :
    ∃ τ, f_X2_exchange σ a (i32 j) (i32 i) = some τ ∧ FR σ τ ∧ stk τ 3 37 S ∧ stk τ 5 38 (i :: j :: (tw G j i ++ W)) := by
  have hn := hG.2.1
  unfold f_X2_exchange
  have e1 : (wI σ 35 3 (i32 S.length)).1 35 5 = i32 (W.length + 1) := by rw [wI_1, if_neg (by omega)]; exact hW.1
  have f0 : FR σ (wI (wI σ 35 3 (i32 S.length)) 35 5 (i32 W.length)) := by
    refine ⟨rfl, fun y h1 _ _ => ?_, fun c h1 h2 => ?_⟩
    · funext k; rw [wI_1, if_neg (by omega), wI_1, if_neg (by omega)]
    · rw [wI_1, if_neg (by omega), wI_1, if_neg (by omega)]
  have s0 : stk (wI (wI σ 35 3 (i32 S.length)) 35 5 (i32 W.length)) 3 37 S := by
    refine ⟨by rw [wI_1, if_neg (by omega), wI_1, if_pos ⟨rfl, rfl⟩], hS.2.2.keep (fun p _ => by rw [wI_1, if_neg (by omega), wI_1, if_neg (by omega)])⟩
  have w0 : stk (wI (wI σ 35 3 (i32 S.length)) 35 5 (i32 W.length)) 5 38 W := by
    refine ⟨by rw [wI_1, if_pos ⟨rfl, rfl⟩], hW.2.2.keep (fun p _ => by rw [wI_1, if_neg (by omega), wI_1, if_neg (by omega)])⟩
  have en : (wI (wI σ 35 3 (i32 S.length)) 35 5 (i32 W.length)).1 a 0 = i32 (gn G) := (h.keep f0 ra.2).1
  have hS1 : σ.1 35 3 = i32 (S.length + 1) := hS.1
  rw [e_gF, hS1, e_pF, show (1 : Int32) = i32 1 from rfl, i32_sub (by omega), e_gF, show S.length + 1 - 1 = S.length by omega, e1, e_pF, i32_sub (by omega), show W.length + 1 - 1 = W.length by omega, e_gF, en, e_bd, i32_sub hG.1]
  generalize wI (wI σ 35 3 (i32 S.length)) 35 5 (i32 W.length) = σ0 at f0 s0 w0
  have h0 : CG σ0 a G := h.keep f0 ra.2
  have hl' := loop_inv (body := fun (z11 : Mem × Int32) => l_X2_exchange_28 a (i32 j) (i32 i) z11.1 z11.2) (fun n z => ∃ d τ, d ≤ gn G - 1 - j ∧ n = gn G - 1 - j - d ∧ z = (τ, i32 (gn G - 1 - d)) ∧ FR σ0 τ ∧ stk τ 3 37 S ∧ stk τ 5 38 (twD G j i d ++ W)) (fun τ => FR σ0 τ ∧ stk τ 3 37 S ∧ stk τ 5 38 (tw G j i ++ W)) ?_ (gn G - 1 - j) (σ0, i32 (gn G - 1)) ⟨0, σ0, by omega, by omega, rfl, FR.refl, s0, w0⟩
  · obtain ⟨τ, e, f1, s1, w1⟩ := hl'
    rw [e, e_bs]
    unfold j_X2_exchange_67
    have l12 := tw_len12 hG hi
    obtain ⟨τ2, e2, f2, s2, w2⟩ := c_putAhead (x := j) s1 w1 (by rw [List.length_append]; omega)
    obtain ⟨τ3, e3, f3, s3, w3⟩ := c_putAhead (x := i) s2 w2 (by rw [List.length_cons, List.length_append]; omega)
    rw [e2, e_bs, e3, e_bs]
    exact ⟨τ3, rfl, f0.trans (f1.trans (f2.trans f3)), s3, w3⟩
  · rintro n z ⟨d, τ, hd, hnd, rfl, f, s1, w1⟩
    by_cases hdd : d = gn G - 1 - j
    · right
      refine ⟨τ, ?_, f, s1, by unfold tw; rw [← hdd]; exact w1⟩
      show l_X2_exchange_28 _ _ _ _ _ = _
      unfold l_X2_exchange_28
      rw [if_pos (i_le (by omega) (by omega))]
    · left
      have ht3 := hG.2.2.2.2.2.1 j i (gn G - 1 - d)
      have hlen := tw_len hG (j := j) (i := i) d
      obtain ⟨υ, e, f2, s2, w2⟩ := c_putMany (σ := τ) (x := gn G - 1 - d) ht3 s1 w1 (by rw [List.length_append]; omega)
      refine ⟨(υ, i32 (gn G - 1 - (d + 1))), gn G - 1 - j - (d + 1), by omega, ?_, d + 1, υ, by omega, rfl, rfl, f.trans f2, s2, ?_⟩
      · show l_X2_exchange_28 _ _ _ _ _ = _
        unfold l_X2_exchange_28
        rw [if_neg (i_nle (by omega) (by omega)), c_read hG (h0.keep f ra.2) ra.1.1 ra.1.2 (by omega) (by omega) (by omega), e_bs, e, e_bs]
        unfold j_X2_exchange_61
        have e2 : i32 (gn G - 1 - d) + (-1) = i32 (gn G - 1 - (d + 1)) := by
          rw [show gn G - 1 - d = (gn G - 1 - (d + 1)) + 1 by omega, ← i32_add, ← i32_1, Int32.add_neg_eq_sub, Int32.add_sub_cancel]
        rw [e2]
      · show stk υ 5 38 ((List.replicate _ _ ++ twD G j i d) ++ W)
        rw [List.append_assoc]
        exact w2
theorem i32_add_one {a : Nat} (h : 1 ≤ a) : i32 a + (-1) = i32 (a - 1) := by
  rw [show a = (a - 1) + 1 by omega, ← i32_add, ← i32_1, Int32.add_neg_eq_sub, Int32.add_sub_cancel]
  rfl
/-- the word that waits, put on the stack -/
theorem c_load {w : List Nat} (hw : w.length ≤ 64) (h36 : ∀ p (h : p < w.length), σ.1 36 p = i32 (w[p])) (hS : stk σ 3 37 []) (hW : stk σ 5 38 []) :
    ∃ τ, loopO (fun (z25 : Mem × Int32) => l_X2_run_17 z25.1 z25.2) (σ, i32 w.length - 1) = some τ ∧ FR σ τ ∧ stk τ 3 37 [] ∧ stk τ 5 38 w := by
  have hl := loop_inv (body := fun (z25 : Mem × Int32) => l_X2_run_17 z25.1 z25.2) (fun n z => ∃ k τ, k ≤ w.length ∧ n = k ∧ z = (τ, i32 k - 1) ∧ FR σ τ ∧ stk τ 3 37 [] ∧ stk τ 5 38 (w.drop k)) (fun τ => FR σ τ ∧ stk τ 3 37 [] ∧ stk τ 5 38 w) ?_ w.length (σ, i32 w.length - 1) ⟨w.length, σ, Nat.le_refl _, rfl, rfl, FR.refl, hS, by rw [List.drop_length]; exact hW⟩
  · exact hl
  · rintro n z ⟨k, τ, hk, hn, rfl, f, s1, w1⟩
    cases k with
    | zero =>
      right
      refine ⟨τ, ?_, f, s1, w1⟩
      show l_X2_run_17 _ _ = _
      unfold l_X2_run_17
      rw [if_pos (show i32 0 - 1 < 0 by decide)]
    | succ k =>
      left
      have e1 : i32 (k + 1) - 1 = i32 k := by rw [i32_1, i32_sub (by omega)]; rfl
      obtain ⟨υ, e, f2, s2, w2⟩ := c_putAhead (σ := τ) (x := w[k]) s1 w1 (by rw [List.length_drop]; omega)
      refine ⟨(υ, i32 k - 1), k, by omega, ?_, k, υ, by omega, rfl, rfl, f.trans f2, s2, ?_⟩
      · show l_X2_run_17 _ _ = _
        unfold l_X2_run_17
        rw [e1, if_neg (show ¬ i32 k < 0 from i_nlt (b := 0) (by omega) (by omega)), e_gI ln_36 (by omega) (by omega), f.2.1 36 (by omega) (by omega) (by omega), h36 k (by omega), e, e_bs, Int32.add_neg_eq_sub]
      · rw [List.drop_eq_getElem_cons (by omega)]
        exact w2
theorem stkA_get {r : Nat} {S : List Nat} : stkA σ r S → ∀ p (h : p < S.length), σ.1 r p = i32 (S[S.length - 1 - p]'(by omega)) := by
  induction S with
  | nil => intro _ p h; simp at h
  | cons x S ih =>
    intro hs p h
    simp only [List.length_cons] at h
    by_cases h1 : p = S.length
    · subst h1
      rw [hs.1]
      congr 1
      simp only [List.length_cons]
      have e : S.length + 1 - 1 - S.length = 0 := by omega
      simp only [e, List.getElem_cons_zero]
    · rw [ih hs.2 p (by omega)]
      congr 1
      simp only [List.length_cons]
      have e : S.length + 1 - 1 - p = (S.length - 1 - p) + 1 := by omega
      simp only [e, List.getElem_cons_succ]
/-- the whole run -/
theorem c_loop {a : Nat} (hG : GOK G) (ra : RA a) (h : CG σ a G) {L : Nat} (hL : L ≤ 1000) {w : List Nat} (hw : w.length ≤ 64) (hwg : ∀ x, x ∈ w → x < gn G) (hS : stk σ 3 37 []) (hW : stk σ 5 38 w) :
    ∃ r, loopO (fun (z11 : Mem × Int32 × Int32) => l_X2_run_42 a (i32 L) z11.1 z11.2.1 z11.2.2) (σ, 0, 0) = some r ∧ ((∃ τ S e, r = Sum.inl (τ, i32 e) ∧ col G L [] w 0 = some (S, e) ∧ e ≤ L ∧ FR σ τ ∧ stk τ 3 37 S ∧ S.length < 12076) ∨ (∃ τ, r = Sum.inr (-1, τ) ∧ col G L [] w 0 = none ∧ FR σ τ)) := by
  have hn := hG.2.1
  refine loop_inv (body := fun (z11 : Mem × Int32 × Int32) => l_X2_run_42 a (i32 L) z11.1 z11.2.1 z11.2.2) (fun n z => ∃ S W ex st τ, z = (τ, i32 ex, i32 st) ∧ n = 14 * (L - ex) + W.length ∧ ex ≤ L ∧ st + n ≤ 14 * L + 64 ∧ S.length + W.length ≤ 64 + 12 * ex ∧ (∀ x, x ∈ S → x < gn G) ∧ (∀ x, x ∈ W → x < gn G) ∧ col G L S W ex = col G L [] w 0 ∧ FR σ τ ∧ stk τ 3 37 S ∧ stk τ 5 38 W) _ ?_ (14 * L + w.length) (σ, 0, 0) ⟨[], w, 0, 0, σ, rfl, rfl, Nat.zero_le _, by omega, by simp only [List.length_nil]; omega, fun x hx => (by cases hx), hwg, rfl, FR.refl, hS, hW⟩
  rintro n z ⟨S, W, ex, st, τ, rfl, rfl, hex, hst, hlen, hSg, hWg, hc, f, s1, w1⟩
  have nst : ¬ (1000000 : Int32) ≤ i32 st := by
    rw [show (1000000 : Int32) = i32 1000000 from rfl]; exact i_nle (by omega) (by omega)
  cases W with
  | nil =>
    right
    refine ⟨Sum.inl (τ, i32 ex), ?_, Or.inl ⟨τ, S, ex, rfl, ?_, hex, f, s1, by simp only [List.length_nil] at hlen; omega⟩⟩
    · show l_X2_run_42 _ _ _ _ _ = _
      unfold l_X2_run_42
      rw [if_neg nst, e_gF, w1.1, if_pos (show i32 ([] : List Nat).length ≤ 0 by decide)]
    · rw [← hc, col_nil]
  | cons i W =>
    have hi := hWg i (List.mem_cons_self ..)
    have hWg' : ∀ x, x ∈ W → x < gn G := fun x hx => hWg x (List.mem_cons_of_mem _ hx)
    simp only [List.length_cons] at hlen hst
    have hW1 : τ.1 35 5 = i32 (W.length + 1) := w1.1
    have nW : ¬ i32 (W.length + 1) ≤ 0 := i_nle (b := 0) (by omega) (by omega)
    have eW : i32 (W.length + 1) - 1 = i32 W.length := by rw [i32_1, i32_sub (by omega)]; rfl
    have tW : τ.1 38 W.length = i32 i := w1.2.1
    have hmove : col G L S (i :: W) ex = col G L (i :: S) W ex → ∃ s' n', n' < 14 * (L - ex) + (i :: W).length ∧ (j_X2_run_92 τ (i32 ex) (i32 i)).bind (Sum.elim (fun (z17 : (Mem × Int32)) => j_X2_run_129 (i32 st) z17.1 z17.2) some) = some (Sum.inl s') ∧ ∃ S W ex st τ, s' = (τ, i32 ex, i32 st) ∧ n' = 14 * (L - ex) + W.length ∧ ex ≤ L ∧ st + n' ≤ 14 * L + 64 ∧ S.length + W.length ≤ 64 + 12 * ex ∧ (∀ x, x ∈ S → x < gn G) ∧ (∀ x, x ∈ W → x < gn G) ∧ col G L S W ex = col G L [] w 0 ∧ FR σ τ ∧ stk τ 3 37 S ∧ stk τ 5 38 W := by
      intro hcm
      obtain ⟨υ, e, f2, s2, w2⟩ := c_moveOn (σ := τ) s1 w1 (by omega) (by omega)
      refine ⟨(υ, i32 ex, i32 (st + 1)), 14 * (L - ex) + W.length, by simp only [List.length_cons]; omega, ?_, i :: S, W, ex, st + 1, υ, rfl, rfl, hex, by omega, by simp only [List.length_cons]; omega, fun x hx => ?_, hWg', by rw [← hc, hcm], f.trans f2, s2, w2⟩
      · unfold j_X2_run_92
        rw [e, e_bs, e_bs]
        show j_X2_run_129 _ _ _ = _
        unfold j_X2_run_129
        rw [i32_1, i32_add]
      · rcases List.mem_cons.mp hx with h1 | h1
        · rw [h1]; exact hi
        · exact hSg x h1
    have hstart : ∀ {y}, ((if τ.1 35 3 = 0 then (some (Sum.inl ())) else (gF τ 35 3 (fun (v19 : Int32) => gI τ 37 (v19 - 1) (fun (v20 : Int32) => if i32 i < v20 then (if i32 ex = i32 L then (some (Sum.inr (Sum.inr (Sum.inr (Sum.inr ((-1), τ)))))) else (gF τ 35 3 (fun (v21 : Int32) => gI τ 37 (v21 - 1) (fun (v22 : Int32) => (f_X2_exchange τ a v22 (i32 i)).bind (fun (σ23 : Mem) => some (Sum.inr (Sum.inl (σ23, i32 ex + 1)))))))) else (some (Sum.inl ()))))) : Option (Unit ⊕ ((Mem × Int32) ⊕ ((Mem × Int32 × Int32) ⊕ ((Mem × Int32) ⊕ (Int32 × Mem)))))).bind (Sum.elim (fun (z17 : Unit) => j_X2_run_92 τ (i32 ex) (i32 i)) some) : Option ((Mem × Int32) ⊕ ((Mem × Int32 × Int32) ⊕ ((Mem × Int32) ⊕ (Int32 × Mem))))).bind (Sum.elim (fun (z17 : (Mem × Int32)) => j_X2_run_129 (i32 st) z17.1 z17.2) some) = y → l_X2_run_42 a (i32 L) τ (i32 ex) (i32 st) = y := by
      intro y hy
      unfold l_X2_run_42
      rw [if_neg nst, e_gF, hW1, if_neg nW, e_gF, hW1, eW, e_gI ln_38 (by omega) (by omega), tW, e_gF]
      exact hy
    cases S with
    | nil =>
      left
      obtain ⟨s', n', h1, h2, h3⟩ := hmove (by rw [col_first hG hex])
      refine ⟨s', n', h1, ?_, h3⟩
      show l_X2_run_42 _ _ _ _ _ = _
      refine hstart ?_
      rw [if_pos (show τ.1 35 3 = 0 from s1.1), e_bs]
      exact h2
    | cons j S =>
      have hS1 : τ.1 35 3 = i32 (S.length + 1) := s1.1
      simp only [List.length_cons] at hlen
      have nS : ¬ i32 (S.length + 1) = 0 := i_ne0 (by omega) (by omega)
      have eS : i32 (S.length + 1) - 1 = i32 S.length := by rw [i32_1, i32_sub (by omega)]; rfl
      have tS : τ.1 37 S.length = i32 j := s1.2.1
      have hj := hSg j (List.mem_cons_self ..)
      by_cases hij : i < j
      · by_cases hx : ex = L
        · right
          subst hx
          refine ⟨Sum.inr (-1, τ), ?_, Or.inr ⟨τ, rfl, by rw [← hc, col_limit hij], f⟩⟩
          show l_X2_run_42 _ _ _ _ _ = _
          refine hstart ?_
          rw [hS1, if_neg nS, e_gF, hS1, eS, e_gI ln_37 (by omega) (by omega), tS, if_pos (i_lt hij (by omega)), if_pos rfl]
          rfl
        · left
          obtain ⟨υ, e, f2, s2, w2⟩ := c_exchange (σ := τ) hG ra (h.keep f ra.2) hij hj s1 w1 (by omega) (by omega)
          have l12 := tw_len12 hG hij
          have ll : (i :: j :: (tw G j i ++ W)).length = 2 + (tw G j i).length + W.length := by
            simp only [List.length_cons, List.length_append]; omega
          refine ⟨(υ, i32 (ex + 1), i32 (st + 1)), 14 * (L - (ex + 1)) + (i :: j :: (tw G j i ++ W)).length, by simp only [List.length_cons] at ll ⊢; omega, ?_, S, i :: j :: (tw G j i ++ W), ex + 1, st + 1, υ, rfl, rfl, by omega, by omega, by omega, fun x hx => hSg x (List.mem_cons_of_mem _ hx), fun x hx => ?_, by rw [← hc, col_exch hG (by omega) hij], f.trans f2, s2, w2⟩
          · show l_X2_run_42 _ _ _ _ _ = _
            refine hstart ?_
            rw [hS1, if_neg nS, e_gF, hS1, eS, e_gI ln_37 (by omega) (by omega), tS, if_pos (i_lt hij (by omega)), if_neg (i_ne hx (by omega) (by omega)), e_gF, hS1, eS, e_gI ln_37 (by omega) (by omega), tS, e, e_bs, e_bs]
            show (some (Sum.inl (υ, i32 ex + 1)) : Option ((Mem × Int32) ⊕ ((Mem × Int32 × Int32) ⊕ ((Mem × Int32) ⊕ (Int32 × Mem))))).bind _ = _
            rw [e_bs]
            show j_X2_run_129 _ _ _ = _
            unfold j_X2_run_129
            rw [i32_1, i32_add, i32_add]
          · rcases List.mem_cons.mp hx with h5 | h5
            · rw [h5]; exact hi
            · rcases List.mem_cons.mp h5 with h6 | h6
              · rw [h6]; exact hj
              · rcases List.mem_append.mp h6 with h7 | h7
                · exact (tw_mem hj h7).2.1
                · exact hWg' x h7
      · left
        obtain ⟨s', n', h1, h2, h3⟩ := hmove (by rw [col_move hG hex (by omega)])
        refine ⟨s', n', h1, ?_, h3⟩
        show l_X2_run_42 _ _ _ _ _ = _
        refine hstart ?_
        rw [hS1, if_neg nS, e_gF, hS1, eS, e_gI ln_37 (by omega) (by omega), tS, if_neg (i_nlt (by omega) (by omega)), e_bs]
        exact h2
end CD
end
section
/-! rows filled; letters counted; the class's run -/
section CE
variable {G : GD} {σ : Mem}
/-- one row of ints alone -/
def OI (a : Nat) (σ τ : Mem) : Prop := τ.2 = σ.2 ∧ ∀ x, x ≠ a → τ.1 x = σ.1 x
theorem fillI {a n : Nat} {v : Int32} (hn : ln a = n) (h : n < 2 ^ 31) : ∃ τ, f_J7_fill_53178 σ a v = some τ ∧ OI a σ τ ∧ ∀ k, k < n → τ.1 a k = v := by
  unfold f_J7_fill_53178
  rw [e_bd, hn]
  have hl := loop_inv (body := fun (z3 : Mem × Int32) => l_J7_fill_53178_5 a v (Int32.ofNat n) z3.1 z3.2) (fun m z => ∃ k τ, k ≤ n ∧ m = n - k ∧ z = (τ, i32 k) ∧ OI a σ τ ∧ ∀ i, i < k → τ.1 a i = v) (fun τ => OI a σ τ ∧ ∀ k, k < n → τ.1 a k = v) ?_ n (σ, 0) ⟨0, σ, Nat.zero_le _, by omega, rfl, ⟨rfl, fun _ _ => rfl⟩, fun i hi => absurd hi (Nat.not_lt_zero _)⟩
  · exact hl
  · rintro m z ⟨k, τ, hk, hm, rfl, ho, hv⟩
    by_cases hkn : k = n
    · right
      refine ⟨τ, ?_, ho, fun i hi => hv i (by omega)⟩
      show l_J7_fill_53178_5 a v (i32 n) τ (i32 k) = _
      unfold l_J7_fill_53178_5
      rw [if_pos (show i32 n ≤ i32 k from i_le (by omega) (by omega))]
    · left
      refine ⟨(wI τ a k v, i32 (k + 1)), n - (k + 1), by omega, ?_, k + 1, _, by omega, rfl, rfl, ⟨ho.1, fun x hx => ?_⟩, fun i hi => ?_⟩
      · show l_J7_fill_53178_5 a v (i32 n) τ (i32 k) = _
        unfold l_J7_fill_53178_5
        rw [if_neg (show ¬ i32 n ≤ i32 k from i_nle (by omega) (by omega)), e_pI hn (by omega) h, i32_1, i32_add]
      · funext y
        rw [wI_1, if_neg (fun q => hx q.1), ho.2 x hx]
      · rw [wI_1]
        by_cases h1 : i = k
        · rw [if_pos ⟨rfl, h1⟩]
        · rw [if_neg (fun q => h1 q.2)]; exact hv i (by omega)
theorem fillL {a n : Nat} {v : Int64} (hn : ln a = n) (h : n < 2 ^ 31) : ∃ τ, f_J7_fill_d0a16 σ a v = some τ ∧ OL (fun x => x = a) σ τ ∧ ∀ k, k < n → τ.2 a k = v := by
  unfold f_J7_fill_d0a16
  rw [e_bd, hn]
  have hl := loop_inv (body := fun (z3 : Mem × Int32) => l_J7_fill_d0a16_6 a v (Int32.ofNat n) z3.1 z3.2) (fun m z => ∃ k τ, k ≤ n ∧ m = n - k ∧ z = (τ, i32 k) ∧ OL (fun x => x = a) σ τ ∧ ∀ i, i < k → τ.2 a i = v) (fun τ => OL (fun x => x = a) σ τ ∧ ∀ k, k < n → τ.2 a k = v) ?_ n (σ, 0) ⟨0, σ, Nat.zero_le _, by omega, rfl, OL.refl, fun i hi => absurd hi (Nat.not_lt_zero _)⟩
  · exact hl
  · rintro m z ⟨k, τ, hk, hm, rfl, ho, hv⟩
    by_cases hkn : k = n
    · right
      refine ⟨τ, ?_, ho, fun i hi => hv i (by omega)⟩
      show l_J7_fill_d0a16_6 a v (i32 n) τ (i32 k) = _
      unfold l_J7_fill_d0a16_6
      rw [if_pos (show i32 n ≤ i32 k from i_le (by omega) (by omega))]
    · left
      refine ⟨(wL τ a k v, i32 (k + 1)), n - (k + 1), by omega, ?_, k + 1, _, by omega, rfl, rfl, ho.trans (OL.wL rfl), fun i hi => ?_⟩
      · show l_J7_fill_d0a16_6 a v (i32 n) τ (i32 k) = _
        unfold l_J7_fill_d0a16_6
        rw [if_neg (show ¬ i32 n ≤ i32 k from i_nle (by omega) (by omega)), e_pL hn (by omega) h, i32_1, i32_add]
      · rw [wL_2]
        by_cases h1 : i = k
        · rw [if_pos ⟨rfl, h1⟩]
        · rw [if_neg (fun q => h1 q.2)]; exact hv i (by omega)
theorem c_count {S : List Nat} (hS : stk σ 3 37 S) (hl : S.length < 12076) (hs : ∀ x, x ∈ S → x < 6) : ∃ τ, f_X2_countLetters σ = some τ ∧ OI 39 σ τ ∧ ∀ m, m < 6 → τ.1 39 m = i32 (S.count m) := by
  unfold f_X2_countLetters
  obtain ⟨τ0, e0, o0, z0⟩ := fillI (σ := σ) (a := 39) (v := 0) ln_39 (by omega)
  rw [e0, e_bs]
  have hl' := loop_inv (body := fun (z3 : Mem × Int32) => l_X2_countLetters_10 z3.1 z3.2) (fun n z => ∃ k τ, k ≤ S.length ∧ n = S.length - k ∧ z = (τ, i32 k) ∧ OI 39 σ τ ∧ ∀ m, m < 6 → τ.1 39 m = i32 ((S.drop (S.length - k)).count m)) (fun τ => OI 39 σ τ ∧ ∀ m, m < 6 → τ.1 39 m = i32 (S.count m)) ?_ S.length (τ0, 0) ⟨0, τ0, Nat.zero_le _, by omega, rfl, o0, fun m hm => by rw [Nat.sub_zero, List.drop_length]; exact z0 m hm⟩
  · exact hl'
  · rintro n z ⟨k, τ, hk, hn, rfl, ho, hc⟩
    have e35 : τ.1 35 3 = i32 S.length := by rw [ho.2 35 (by omega)]; exact hS.1
    by_cases hkn : k = S.length
    · right
      refine ⟨τ, ?_, ho, fun m hm => ?_⟩
      · show l_X2_countLetters_10 _ _ = _
        unfold l_X2_countLetters_10
        rw [e_gF, e35, if_pos (i_le (by omega) (by omega))]
      · rw [hc m hm, show S.length - k = 0 by omega, List.drop_zero]
    · left
      have hg := stkA_get hS.2 k (by omega)
      have hx6 := hs (S[S.length - 1 - k]'(by omega)) (List.getElem_mem _)
      have hd : S.drop (S.length - (k + 1)) = S[S.length - 1 - k]'(by omega) :: S.drop (S.length - k) := by
        have e := List.drop_eq_getElem_cons (l := S) (i := S.length - 1 - k) (by omega)
        rw [show S.length - 1 - k + 1 = S.length - k by omega] at e
        rw [show S.length - (k + 1) = S.length - 1 - k by omega]
        exact e
      generalize S[S.length - 1 - k]'(by omega) = x at hg hx6 hd
      refine ⟨(wI τ 39 x (i32 ((S.drop (S.length - k)).count x + 1)), i32 (k + 1)), S.length - (k + 1), by omega, ?_, k + 1, _, by omega, rfl, rfl, ⟨ho.1, fun y hy => ?_⟩, fun m hm => ?_⟩
      · show l_X2_countLetters_10 _ _ = _
        unfold l_X2_countLetters_10
        rw [e_gF, e35, if_neg (i_nle (by omega) (by omega)), e_gI ln_37 (by omega) (by omega), ho.2 37 (by omega), hg, e_gI ln_39 hx6 (by omega), hc x hx6, i32_1, i32_add, e_pI ln_39 hx6 (by omega), i32_add]
      · funext j
        rw [wI_1, if_neg (fun q => hy q.1), ho.2 y hy]
      · rw [wI_1, hd, List.count_cons]
        by_cases h1 : m = x
        · rw [if_pos ⟨rfl, h1⟩, h1, if_pos (by rw [beq_self_eq_true])]
        · rw [if_neg (fun q => h1 q.2), if_neg (by rw [beq_iff_eq]; omega), hc m hm, Nat.add_zero]
/-- what the class's run changes -/
def FC (σ τ : Mem) : Prop := τ.2 = σ.2 ∧ (∀ x, x ≠ 35 → x ≠ 37 → x ≠ 38 → x ≠ 39 → τ.1 x = σ.1 x) ∧ ∀ c, c ≠ 3 → c ≠ 5 → τ.1 35 c = σ.1 35 c
theorem c_run {a : Nat} (hG : GOK G) (ra : RA a) (h : CG σ a G) {L : Nat} (hL : L ≤ 1000) {w : List Nat} (hw : w.length ≤ 64) (hwg : ∀ x, x ∈ w → x < gn G) (h35 : σ.1 35 1 = i32 w.length) (h36 : ∀ p (h : p < w.length), σ.1 36 p = i32 (w[p])) :
    ∃ τ, FC σ τ ∧ ((∃ S e, col G L [] w 0 = some (S, e) ∧ e ≤ L ∧ f_X2_run σ a (i32 L) = some (i32 e, τ) ∧ S.length < 12076 ∧ ∀ m, m < 6 → τ.1 39 m = i32 (S.count m)) ∨ (col G L [] w 0 = none ∧ f_X2_run σ a (i32 L) = some (-1, τ))) := by
  have hn := hG.2.1
  unfold f_X2_run
  have f0 : FR σ (wI (wI σ 35 3 0) 35 5 0) := by
    refine ⟨rfl, fun y h1 _ _ => ?_, fun c h1 h2 => ?_⟩
    · funext k; rw [wI_1, if_neg (by omega), wI_1, if_neg (by omega)]
    · rw [wI_1, if_neg (by omega), wI_1, if_neg (by omega)]
  have s0 : stk (wI (wI σ 35 3 0) 35 5 0) 3 37 [] := ⟨by rw [wI_1, if_neg (by omega), wI_1, if_pos ⟨rfl, rfl⟩]; rfl, trivial⟩
  have w0 : stk (wI (wI σ 35 3 0) 35 5 0) 5 38 [] := ⟨by rw [wI_1, if_pos ⟨rfl, rfl⟩]; rfl, trivial⟩
  have l0 : (wI (wI σ 35 3 0) 35 5 0).1 35 1 = i32 w.length := by rw [f0.2.2 1 (by omega) (by omega)]; exact h35
  rw [e_pF, e_pF, e_gF, l0, e_bd]
  generalize wI (wI σ 35 3 0) 35 5 0 = σ0 at f0 s0 w0
  obtain ⟨τ1, e1, f1, s1, w1⟩ := c_load (σ := σ0) hw (fun p hp => by rw [f0.2.1 36 (by omega) (by omega) (by omega)]; exact h36 p hp) s0 w0
  rw [e1, e_bs]
  unfold j_X2_run_37
  obtain ⟨r, e2, ⟨τ2, S, e, rfl, hc, hle, f2, s2, hl2⟩ | ⟨τ2, rfl, hc, f2⟩⟩ := c_loop (σ := τ1) hG ra (h.keep (f0.trans f1) ra.2) hL hw hwg s1 w1
  · rw [e2, e_bs]
    have hval := run_val hG _ [] w 0 S e List.Pairwise.nil (fun x hx => (by cases hx)) hwg hc
    obtain ⟨τ3, e3, o3, c3⟩ := c_count (σ := τ2) s2 hl2 (fun x hx => by have := hval.2.2 x hx; omega)
    have ft := f0.trans (f1.trans f2)
    refine ⟨τ3, ⟨o3.1.trans ft.1, fun x h1 h2 h3 h4 => by rw [o3.2 x h4, ft.2.1 x h1 h2 h3], fun c h1 h2 => by rw [o3.2 35 (by omega), ft.2.2 c h1 h2]⟩, Or.inl ⟨S, e, hc, hle, ?_, hl2, c3⟩⟩
    show j_X2_run_135 _ _ = _
    unfold j_X2_run_135
    rw [e3, e_bs]
  · rw [e2, e_bs]
    have ft := f0.trans (f1.trans f2)
    exact ⟨τ2, ⟨ft.1, fun x h1 h2 h3 _ => ft.2.1 x h1 h2 h3, ft.2.2⟩, Or.inr ⟨hc, rfl⟩⟩
end CE
end
section
/-! the reference's exchange -/
section RE
variable {G : GD} {σ : Mem}
def RW (σ : Mem) (l : List Nat) : Prop := σ.1 306 6 = i32 l.length ∧ ∀ p x, l[p]? = some x → σ.1 309 p = i32 x
/-- what the reference's collecting changes -/
def FX (σ τ : Mem) : Prop := τ.2 = σ.2 ∧ (∀ x, x ≠ 306 → x ≠ 309 → τ.1 x = σ.1 x) ∧ ∀ c, c ≠ 6 → c ≠ 7 → τ.1 306 c = σ.1 306 c
theorem FX.refl : FX σ σ := ⟨rfl, fun _ _ _ => rfl, fun _ _ _ => rfl⟩
theorem FX.trans {τ υ : Mem} (h : FX σ τ) (k : FX τ υ) : FX σ υ := ⟨k.1.trans h.1, fun x h1 h2 => (k.2.1 x h1 h2).trans (h.2.1 x h1 h2), fun c h1 h2 => (k.2.2 c h1 h2).trans (h.2.2 c h1 h2)⟩
theorem MG.fx {τ : Mem} (h : MG σ G) (k : FX σ τ) : MG τ G := by
  unfold MG
  rw [k.2.1 307 (by omega) (by omega)]
  exact h
theorem twD_succ {j i d : Nat} : twD G j i (d + 1) = List.replicate (gt G j i (gn G - 1 - d)) (gn G - 1 - d) ++ twD G j i d := rfl
theorem tw_suffix {j i : Nat} : ∀ e d, d + e = gn G - 1 - j → ∃ X, tw G j i = X ++ twD G j i d := by
  intro e
  induction e with
  | zero => intro d h; exact ⟨[], by unfold tw; rw [← h]; rfl⟩
  | succ e ih =>
    intro d h
    obtain ⟨X, hX⟩ := ih (d + 1) (by omega)
    exact ⟨X ++ List.replicate (gt G j i (gn G - 1 - d)) (gn G - 1 - d), by rw [hX, twD_succ, List.append_assoc]⟩
theorem r_sum (h : MG σ G) (hG : GOK G) {j i : Nat} (hi : i < j) (hj : j < gn G) :
    loopO (fun (z34 : Int32 × Int32) => l_X11_exchanges_24 σ (i32 j) (i32 i) z34.1 z34.2) (0, i32 (j + 1)) = some (i32 (tw G j i).length) := by
  have hn := hG.2.1
  have hl := loop_inv (body := fun (z34 : Int32 × Int32) => l_X11_exchanges_24 σ (i32 j) (i32 i) z34.1 z34.2) (fun n z => ∃ d, d ≤ gn G - 1 - j ∧ n = d ∧ z = (i32 ((tw G j i).length - (twD G j i d).length), i32 (gn G - d)) ∧ (twD G j i d).length ≤ (tw G j i).length) (fun r => r = i32 (tw G j i).length) ?_ (gn G - 1 - j) (0, i32 (j + 1)) ⟨gn G - 1 - j, Nat.le_refl _, rfl, by
      rw [show gn G - (gn G - 1 - j) = j + 1 by omega]
      show _ = (i32 ((tw G j i).length - (tw G j i).length), _)
      rw [Nat.sub_self]; rfl, Nat.le_refl _⟩
  · obtain ⟨r, h1, h2⟩ := hl
    rw [h1, h2]
  · rintro n z ⟨d, hd, rfl, rfl, hle⟩
    cases n with
    | zero =>
      right
      refine ⟨_, ?_, rfl⟩
      show l_X11_exchanges_24 σ (i32 j) (i32 i) _ (i32 (gn G - 0)) = _
      unfold l_X11_exchanges_24
      rw [e_n h, e_bs, if_pos (i_le (by omega) (by omega))]
      rfl
    | succ d =>
      left
      have hl1 : (twD G j i (d + 1)).length = gt G j i (gn G - 1 - d) + (twD G j i d).length := by
        rw [twD_succ, List.length_append, List.length_replicate]
      have h12 := tw_len12 hG hi
      refine ⟨(i32 ((tw G j i).length - (twD G j i d).length), i32 (gn G - d)), d, by omega, ?_, d, by omega, rfl, rfl, by omega⟩
      show l_X11_exchanges_24 σ (i32 j) (i32 i) (i32 ((tw G j i).length - (twD G j i (d + 1)).length)) (i32 (gn G - (d + 1))) = _
      unfold l_X11_exchanges_24
      rw [e_n h, e_bs, if_neg (i_nle (by omega) (by omega)), e_tail h (by omega) (by omega) (by omega), e_bs, e_bd, i32_add, i32_1, i32_add, show gn G - (d + 1) + 1 = gn G - d by omega, show gn G - (d + 1) = gn G - 1 - d by omega]
      congr 4
      omega
theorem r_shift {l : List Nat} {at_ more : Nat} (hl : l.length + more ≤ 16000) (hat : at_ + 1 < l.length) (h : RW σ l) :
    ∃ τ, loopO (fun (z30 : Mem × Int32) => l_X11_exchanges_60 (i32 at_) (i32 more) z30.1 z30.2) (σ, i32 (l.length - 1)) = some τ ∧ FX σ τ ∧ τ.1 306 = σ.1 306 ∧ (∀ p x, p ≤ at_ + 1 → l[p]? = some x → τ.1 309 p = i32 x) ∧ ∀ p x, at_ + 1 < p → l[p]? = some x → τ.1 309 (p + more) = i32 x := by
  have hl' := loop_inv (body := fun (z30 : Mem × Int32) => l_X11_exchanges_60 (i32 at_) (i32 more) z30.1 z30.2) (fun n z => ∃ k τ, at_ + 1 ≤ k ∧ k < l.length ∧ n = k ∧ z = (τ, i32 k) ∧ FX σ τ ∧ τ.1 306 = σ.1 306 ∧ (∀ p x, p ≤ k → l[p]? = some x → τ.1 309 p = i32 x) ∧ ∀ p x, k < p → l[p]? = some x → τ.1 309 (p + more) = i32 x) (fun τ => FX σ τ ∧ τ.1 306 = σ.1 306 ∧ (∀ p x, p ≤ at_ + 1 → l[p]? = some x → τ.1 309 p = i32 x) ∧ ∀ p x, at_ + 1 < p → l[p]? = some x → τ.1 309 (p + more) = i32 x) ?_ (l.length - 1) (σ, i32 (l.length - 1)) ⟨l.length - 1, σ, by omega, by omega, rfl, rfl, FX.refl, rfl, fun p x _ hx => h.2 p x hx, fun p x hp hx => by
      rw [List.getElem?_eq_none (by omega)] at hx; cases hx⟩
  · exact hl'
  · rintro n z ⟨k, τ, hk1, hk2, rfl, rfl, f, e6, a1, a2⟩
    by_cases hk : n = at_ + 1
    · right
      subst hk
      refine ⟨τ, ?_, f, e6, a1, a2⟩
      show l_X11_exchanges_60 (i32 at_) (i32 more) τ (i32 (at_ + 1)) = _
      unfold l_X11_exchanges_60
      rw [i32_1, i32_add, if_pos (i_le (Nat.le_refl _) (by omega))]
    · left
      obtain ⟨x, hx⟩ : ∃ x, l[n]? = some x := ⟨l[n], List.getElem?_eq_getElem hk2⟩
      have hv := a1 n x (Nat.le_refl _) hx
      refine ⟨(wI τ 309 (n + more) (i32 x), i32 (n - 1)), n - 1, by omega, ?_, n - 1, _, by omega, by omega, rfl, rfl, ⟨f.1, fun y h1 h2 => ?_, fun c h1 h2 => ?_⟩, ?_, fun p y hp hy => ?_, fun p y hp hy => ?_⟩
      · show l_X11_exchanges_60 (i32 at_) (i32 more) τ (i32 n) = _
        unfold l_X11_exchanges_60
        rw [i32_1, i32_add, if_neg (i_nle (by omega) (by omega)), e_gI ln_309 (by omega) (by omega), hv, i32_add, e_pI ln_309 (by omega) (by omega), ← i32_1, i32_add_one (by omega)]
      · funext q
        rw [wI_1, if_neg (fun z => h2 z.1), f.2.1 y h1 h2]
      · rw [wI_1, if_neg (by omega), f.2.2 c h1 h2]
      · funext q
        rw [wI_1, if_neg (by omega), e6]
      · rw [wI_1, if_neg (by omega)]
        exact a1 p y (by omega) hy
      · rw [wI_1]
        by_cases h1 : p = n
        · rw [if_pos ⟨rfl, by omega⟩]
          rw [h1, hx] at hy
          cases hy; rfl
        · rw [if_neg (by omega)]
          exact a2 p y (by omega) hy
end RE
end
section
/-! the reference's exchange, whole -/
section RF
variable {G : GD} {σ : Mem}
/-- row 309 alone, from a place on, up to another -/
def F9 (σ τ : Mem) (lo hi : Nat) : Prop := τ.2 = σ.2 ∧ (∀ x, x ≠ 309 → τ.1 x = σ.1 x) ∧ ∀ p, p < lo ∨ hi ≤ p → τ.1 309 p = σ.1 309 p
theorem r_fillk {k to t : Nat} (h16 : to + t ≤ 16000) (ht : t ≤ 3) :
    ∃ τ, loopO (fun (z26 : Mem × Int32 × Int32) => l_X11_exchanges_147 (i32 k) z26.1 z26.2.1 z26.2.2) (σ, i32 to, i32 t) = some (τ, i32 (to + t)) ∧ F9 σ τ to (to + t) ∧ ∀ p, to ≤ p → p < to + t → τ.1 309 p = i32 k := by
  have hl := loop_inv (body := fun (z26 : Mem × Int32 × Int32) => l_X11_exchanges_147 (i32 k) z26.1 z26.2.1 z26.2.2) (fun n z => ∃ s τ, s ≤ t ∧ n = t - s ∧ z = (τ, i32 (to + s), i32 (t - s)) ∧ F9 σ τ to (to + t) ∧ ∀ p, to ≤ p → p < to + s → τ.1 309 p = i32 k) (fun r => ∃ τ, r = (τ, i32 (to + t)) ∧ F9 σ τ to (to + t) ∧ ∀ p, to ≤ p → p < to + t → τ.1 309 p = i32 k) ?_ t (σ, i32 to, i32 t) ⟨0, σ, Nat.zero_le _, by omega, rfl, ⟨rfl, fun _ _ => rfl, fun _ _ => rfl⟩, fun p h1 h2 => by omega⟩
  · obtain ⟨r, e, τ, rfl, f, v⟩ := hl
    exact ⟨τ, e, f, v⟩
  · rintro n z ⟨s, τ, hs, rfl, rfl, f, v⟩
    by_cases hst : s = t
    · right
      subst hst
      refine ⟨(τ, i32 (to + s)), ?_, τ, rfl, f, v⟩
      show l_X11_exchanges_147 (i32 k) τ (i32 (to + s)) (i32 (s - s)) = _
      unfold l_X11_exchanges_147
      rw [Nat.sub_self, if_pos (show i32 0 ≤ 0 by decide)]
    · left
      refine ⟨(wI τ 309 (to + s) (i32 k), i32 (to + (s + 1)), i32 (t - (s + 1))), t - (s + 1), by omega, ?_, s + 1, _, by omega, rfl, rfl, ⟨f.1, fun x hx => ?_, fun p hp => ?_⟩, fun p h1 h2 => ?_⟩
      · show l_X11_exchanges_147 (i32 k) τ (i32 (to + s)) (i32 (t - s)) = _
        unfold l_X11_exchanges_147
        rw [if_neg (show ¬ i32 (t - s) ≤ 0 from i_nle (b := 0) (by omega) (by omega)), e_pI ln_309 (by omega) (by omega), e_bd, i32_add_one (by omega), i32_1, i32_add]
        rw [show t - s - 1 = t - (s + 1) by omega]
        rfl
      · funext q; rw [wI_1, if_neg (fun z => hx z.1), f.2.1 x hx]
      · rw [wI_1, if_neg (by omega), f.2.2 p hp]
      · rw [wI_1]
        by_cases h3 : p = to + s
        · rw [if_pos ⟨rfl, h3⟩]
        · rw [if_neg (fun z => h3 z.2)]; exact v p h1 (by omega)
theorem r_fill (h : MG σ G) (hG : GOK G) {j i to : Nat} (hi : i < j) (hj : j < gn G) (h16 : to + 12 ≤ 16000) :
    ∃ τ, loopO (fun (z19 : Mem × Int32 × Int32) => l_X11_exchanges_128 (i32 j) (i32 i) z19.1 z19.2.1 z19.2.2) (σ, i32 to, i32 (j + 1)) = some τ ∧ F9 σ τ to (to + (tw G j i).length) ∧ ∀ q x, (tw G j i)[q]? = some x → τ.1 309 (to + q) = i32 x := by
  have hn := hG.2.1
  have h12 := tw_len12 hG hi
  have hl := loop_inv (body := fun (z19 : Mem × Int32 × Int32) => l_X11_exchanges_128 (i32 j) (i32 i) z19.1 z19.2.1 z19.2.2) (fun n z => ∃ d X τ, d ≤ gn G - 1 - j ∧ n = d ∧ tw G j i = X ++ twD G j i d ∧ z = (τ, i32 (to + X.length), i32 (gn G - d)) ∧ F9 σ τ to (to + (tw G j i).length) ∧ ∀ q x, X[q]? = some x → τ.1 309 (to + q) = i32 x) (fun τ => F9 σ τ to (to + (tw G j i).length) ∧ ∀ q x, (tw G j i)[q]? = some x → τ.1 309 (to + q) = i32 x) ?_ (gn G - 1 - j) (σ, i32 to, i32 (j + 1)) ⟨gn G - 1 - j, [], σ, Nat.le_refl _, rfl, rfl, by
      rw [show gn G - (gn G - 1 - j) = j + 1 by omega]; rfl, ⟨rfl, fun _ _ => rfl, fun _ _ => rfl⟩, fun q x hx => by simp at hx⟩
  · exact hl
  · rintro n z ⟨d, X, τ, hd, rfl, hX, rfl, f, v⟩
    have hm : MG τ G := by
      unfold MG
      rw [f.2.1 307 (by omega)]
      exact h
    cases n with
    | zero =>
      right
      have hX2 : tw G j i = X := by rw [hX]; exact List.append_nil X
      refine ⟨τ, ?_, f, by rw [hX2]; exact v⟩
      show l_X11_exchanges_128 (i32 j) (i32 i) τ _ (i32 (gn G - 0)) = _
      unfold l_X11_exchanges_128
      rw [e_n hm, e_bs, if_pos (i_le (by omega) (by omega))]
    | succ d =>
      left
      have ht3 := hG.2.2.2.2.2.1 j i (gn G - 1 - d)
      have hlen : (tw G j i).length = X.length + (gt G j i (gn G - 1 - d) + (twD G j i d).length) := by
        rw [hX, List.length_append, twD_succ, List.length_append, List.length_replicate]
      obtain ⟨υ, e, f2, v2⟩ := r_fillk (σ := τ) (k := gn G - 1 - d) (to := to + X.length) (t := gt G j i (gn G - 1 - d)) (by omega) ht3
      refine ⟨(υ, i32 (to + (X ++ List.replicate (gt G j i (gn G - 1 - d)) (gn G - 1 - d)).length), i32 (gn G - d)), d, by omega, ?_, d, X ++ List.replicate (gt G j i (gn G - 1 - d)) (gn G - 1 - d), υ, by omega, rfl, by rw [hX, twD_succ, List.append_assoc], rfl, ⟨f2.1.trans f.1, fun x hx => (f2.2.1 x hx).trans (f.2.1 x hx), fun p hp => by rw [f2.2.2 p (by omega), f.2.2 p hp]⟩, fun q x hx => ?_⟩
      · show l_X11_exchanges_128 (i32 j) (i32 i) τ (i32 (to + X.length)) (i32 (gn G - (d + 1))) = _
        unfold l_X11_exchanges_128
        rw [e_n hm, e_bs, if_neg (i_nle (by omega) (by omega)), show gn G - (d + 1) = gn G - 1 - d by omega, e_tail hm (by omega) (by omega) (by omega), e_bs, e, e_bs]
        unfold j_X11_exchanges_173
        rw [i32_1, i32_add, List.length_append, List.length_replicate, show gn G - 1 - d + 1 = gn G - d by omega, Nat.add_assoc]
      · by_cases h1 : q < X.length
        · rw [List.getElem?_append_left h1] at hx
          rw [f2.2.2 (to + q) (by omega)]
          exact v q x hx
        · rw [List.getElem?_append_right (by omega), List.getElem?_replicate] at hx
          by_cases h2 : q - X.length < gt G j i (gn G - 1 - d)
          · rw [if_pos h2] at hx
            cases hx
            exact v2 (to + q) (by omega) (by omega)
          · rw [if_neg h2] at hx; cases hx
end RF
end
section
/-! the reference's collecting follows the machine -/
section RG
variable {G : GD} {σ : Mem}
theorem r_exchange (h : MG σ G) (hG : GOK G) {A B : List Nat} {j i : Nat} (hi : i < j) (hj : j < gn G) (h16 : A.length + B.length + 20 ≤ 16000) (hR : RW σ (A ++ j :: i :: B)) {ex : Nat} (hx : σ.1 306 7 = i32 ex) :
    ∃ τ, f_X11_exchanges σ (i32 A.length) = some τ ∧ FX σ τ ∧ RW τ (A ++ i :: j :: (tw G j i ++ B)) ∧ τ.1 306 7 = i32 (ex + 1) := by
  have hn := hG.2.1
  have h12 := tw_len12 hG hi
  have hlen : (A ++ j :: i :: B).length = A.length + 2 + B.length := by simp only [List.length_append, List.length_cons]; omega
  have gA : ∀ p x, p < A.length → A[p]? = some x → (A ++ j :: i :: B)[p]? = some x := fun p x hp hx => by rw [List.getElem?_append_left hp]; exact hx
  have gj : (A ++ j :: i :: B)[A.length]? = some j := by rw [List.getElem?_append_right (Nat.le_refl _), Nat.sub_self]; rfl
  have gi : (A ++ j :: i :: B)[A.length + 1]? = some i := by rw [List.getElem?_append_right (by omega), show A.length + 1 - A.length = 1 by omega]; rfl
  have gB : ∀ q x, B[q]? = some x → (A ++ j :: i :: B)[A.length + 2 + q]? = some x := fun q x hx => by
    rw [List.getElem?_append_right (by omega), show A.length + 2 + q - A.length = q + 1 + 1 by omega, List.getElem?_cons_succ, List.getElem?_cons_succ]; exact hx
  unfold f_X11_exchanges
  rw [e_gI ln_309 (by omega) (by omega), hR.2 _ _ gj, i32_1, i32_add, e_gI ln_309 (by omega) (by omega), hR.2 _ _ gi, e_bd, i32_add, r_sum h hG hi hj, e_bs]
  unfold j_X11_exchanges_52
  rw [e_gF, hR.1, e_bd, i32_1, i32_sub (by omega)]
  obtain ⟨τ1, e1, f1, g1, a1, b1⟩ := r_shift (σ := σ) (l := A ++ j :: i :: B) (at_ := A.length) (more := (tw G j i).length) (by omega) (by omega) hR
  rw [e1, e_bs]
  unfold j_X11_exchanges_91
  have g6 : τ1.1 306 6 = i32 (A ++ j :: i :: B).length := by rw [g1]; exact hR.1
  have M4 : MG (wI (wI (wI τ1 306 6 (i32 ((A ++ j :: i :: B).length + (tw G j i).length))) 309 A.length (i32 i)) 309 (A.length + 1) (i32 j)) G := by
    have := h.fx f1
    unfold MG at this ⊢
    simp only [wI_1]
    refine ⟨by rw [if_neg (by omega), if_neg (by omega), if_neg (by omega)]; exact this.1, fun i hi => by rw [if_neg (by omega), if_neg (by omega), if_neg (by omega)]; exact this.2.1 i hi, fun j i k h1 h2 h3 => by rw [if_neg (by omega), if_neg (by omega), if_neg (by omega)]; exact this.2.2 j i k h1 h2 h3⟩
  rw [e_gF, g6, e_pF, i32_add, e_pI ln_309 (by omega) (by omega), i32_1, i32_add, e_pI ln_309 (by omega) (by omega), e_bd, i32_2, i32_add, e_bd, i32_add]
  obtain ⟨τ5, e5, f5, v5⟩ := r_fill (σ := wI (wI (wI τ1 306 6 (i32 ((A ++ j :: i :: B).length + (tw G j i).length))) 309 A.length (i32 i)) 309 (A.length + 1) (i32 j)) M4 hG (to := A.length + 2) hi hj (by omega)
  rw [e5, e_bs]
  unfold j_X11_exchanges_179
  have g7 : τ5.1 306 7 = i32 ex := by
    rw [f5.2.1 306 (by omega), wI_1, if_neg (by omega), wI_1, if_neg (by omega), wI_1, if_neg (by omega), g1]; exact hx
  have k309 : ∀ p, p ≠ A.length → p ≠ A.length + 1 → (p < A.length + 2 ∨ A.length + 2 + (tw G j i).length ≤ p) → τ5.1 309 p = τ1.1 309 p := fun p h1 h2 h3 => by
    rw [f5.2.2 p h3, wI_1, if_neg (fun z => h2 z.2), wI_1, if_neg (fun z => h1 z.2), wI_1, if_neg (by omega)]
  refine ⟨wI τ5 306 7 (i32 (ex + 1)), by rw [e_gF, g7, e_pF, i32_1, i32_add], ⟨f5.1.trans f1.1, fun x h1 h2 => ?_, fun c h1 h2 => ?_⟩, ⟨?_, fun p x hp => ?_⟩, by rw [wI_1, if_pos ⟨rfl, rfl⟩]⟩
  · funext q
    rw [wI_1, if_neg (fun z => h1 z.1), f5.2.1 x h2, wI_1, if_neg (fun z => h2 z.1), wI_1, if_neg (fun z => h2 z.1), wI_1, if_neg (fun z => h1 z.1), f1.2.1 x h1 h2]
  · rw [wI_1, if_neg (by omega), f5.2.1 306 (by omega), wI_1, if_neg (by omega), wI_1, if_neg (by omega), wI_1, if_neg (by omega), f1.2.2 c h1 h2]
  · rw [wI_1, if_neg (by omega), f5.2.1 306 (by omega), wI_1, if_neg (by omega), wI_1, if_neg (by omega), wI_1, if_pos ⟨rfl, rfl⟩]
    congr 1
    simp only [List.length_append, List.length_cons]
    omega
  · rw [wI_1, if_neg (by omega)]
    by_cases c1 : p < A.length
    · rw [List.getElem?_append_left c1] at hp
      rw [k309 p (by omega) (by omega) (by omega)]
      exact a1 p x (by omega) (gA p x c1 hp)
    · rw [List.getElem?_append_right (by omega)] at hp
      by_cases c2 : p = A.length
      · subst c2
        rw [Nat.sub_self] at hp
        cases hp
        rw [f5.2.2 _ (by omega), wI_1, if_neg (by omega), wI_1, if_pos ⟨rfl, rfl⟩]
      · by_cases c3 : p = A.length + 1
        · subst c3
          rw [show A.length + 1 - A.length = 1 by omega] at hp
          cases hp
          rw [f5.2.2 _ (by omega), wI_1, if_pos ⟨rfl, rfl⟩]
        · obtain ⟨q, rfl⟩ : ∃ q, p = A.length + 2 + q := ⟨p - (A.length + 2), by omega⟩
          rw [show A.length + 2 + q - A.length = q + 1 + 1 by omega, List.getElem?_cons_succ, List.getElem?_cons_succ] at hp
          by_cases c4 : q < (tw G j i).length
          · rw [List.getElem?_append_left c4] at hp
            exact v5 q x hp
          · rw [List.getElem?_append_right (by omega)] at hp
            rw [k309 _ (by omega) (by omega) (by omega)]
            have := b1 (A.length + 2 + (q - (tw G j i).length)) x (by omega) (gB _ x hp)
            rw [show A.length + 2 + (q - (tw G j i).length) + (tw G j i).length = A.length + 2 + q by omega] at this
            exact this
theorem r_collects (h : MG σ G) (hG : GOK G) {l : List Nat} {ex0 : Nat} (hl : l.length ≤ 64) (hlg : ∀ x, x ∈ l → x < gn G) (hR : RW σ l) (hx0 : σ.1 306 7 = i32 ex0) (h0 : ex0 ≤ 1000) :
    ∃ b τ, f_X11_collects σ = some (b, τ) ∧ FX σ τ ∧ ((∃ S e, col G 1000 [] l ex0 = some (S, e) ∧ b = true ∧ RW τ S.reverse ∧ τ.1 306 7 = i32 e ∧ e ≤ 1000) ∨ (col G 1000 [] l ex0 = none ∧ b = false)) := by
  have hn := hG.2.1
  unfold f_X11_collects
  cases l with
  | nil =>
    refine ⟨true, σ, ?_, FX.refl, Or.inl ⟨[], ex0, col_nil, rfl, hR, hx0, h0⟩⟩
    rw [loopO_eq]
    show (l_X11_collects_2 σ 0).bind _ = _
    unfold l_X11_collects_2
    rw [e_gF, hR.1, if_pos (show i32 ([] : List Nat).length ≤ 0 + 1 by decide)]
    rfl
  | cons x l =>
    have hc0 : col G 1000 [] (x :: l) ex0 = col G 1000 [x] l ex0 := col_first hG h0
    rw [hc0]
    simp only [List.length_cons] at hl
    have hl' := loop_inv (body := fun (z2 : Mem × Int32) => l_X11_collects_2 z2.1 z2.2) (fun n z => ∃ j S W ex τ, z = (τ, i32 S.length) ∧ n = 14 * (1000 - ex) + W.length ∧ ex ≤ 1000 ∧ S.length + 1 + W.length ≤ 64 + 12 * ex ∧ (∀ x, x ∈ j :: S → x < gn G) ∧ (∀ x, x ∈ W → x < gn G) ∧ col G 1000 (j :: S) W ex = col G 1000 [x] l ex0 ∧ FX σ τ ∧ RW τ (S.reverse ++ j :: W) ∧ τ.1 306 7 = i32 ex) (fun r => ∃ b τ, r = (b, τ) ∧ FX σ τ ∧ ((∃ S e, col G 1000 [x] l ex0 = some (S, e) ∧ b = true ∧ RW τ S.reverse ∧ τ.1 306 7 = i32 e ∧ e ≤ 1000) ∨ (col G 1000 [x] l ex0 = none ∧ b = false))) ?_ (14 * (1000 - ex0) + l.length) (σ, 0) ⟨x, [], l, ex0, σ, rfl, rfl, h0, by simp only [List.length_nil]; omega, fun y hy => hlg y (by rw [List.mem_singleton.mp hy]; exact List.mem_cons_self ..), fun y hy => hlg y (List.mem_cons_of_mem _ hy), rfl, FX.refl, hR, hx0⟩
    · obtain ⟨r, e, b, τ, rfl, f, c⟩ := hl'
      exact ⟨b, τ, e, f, c⟩
    · rintro n z ⟨j, S, W, ex, τ, rfl, rfl, hex, hlen, hSg, hWg, hc, f, hR, hx⟩
      have hj := hSg j (List.mem_cons_self ..)
      have hlw : (S.reverse ++ j :: W).length = S.length + 1 + W.length := by simp only [List.length_append, List.length_cons, List.length_reverse]; omega
      have gj : (S.reverse ++ j :: W)[S.length]? = some j := by rw [List.getElem?_append_right (by rw [List.length_reverse]; omega), List.length_reverse, Nat.sub_self]; rfl
      cases W with
      | nil =>
        right
        refine ⟨(true, τ), ?_, true, τ, rfl, f, Or.inl ⟨j :: S, ex, by rw [← hc, col_nil], rfl, by rw [List.reverse_cons]; exact hR, hx, hex⟩⟩
        show l_X11_collects_2 τ (i32 S.length) = _
        unfold l_X11_collects_2
        rw [e_gF, hR.1, hlw, i32_1, i32_add, if_pos (i_le (by simp only [List.length_nil]; omega) (by omega))]
      | cons i W =>
        have hi := hWg i (List.mem_cons_self ..)
        have hWg' : ∀ x, x ∈ W → x < gn G := fun x hx => hWg x (List.mem_cons_of_mem _ hx)
        simp only [List.length_cons] at hlen hlw
        have gi : (S.reverse ++ j :: i :: W)[S.length + 1]? = some i := by rw [List.getElem?_append_right (by rw [List.length_reverse]; omega), List.length_reverse, show S.length + 1 - S.length = 1 by omega]; rfl
        have hstart : ∀ {y}, (if i32 i < i32 j then (gF τ 306 7 (fun (v6 : Int32) => if v6 = 1000 then (some (Sum.inr (false, τ))) else ((f_X11_exchanges τ (i32 S.length)).bind (fun (σ7 : Mem) => (if i32 S.length ≤ 0 then (some 0) else (some (i32 S.length - 1)) : Option Int32).bind (fun (z8 : Int32) => j_X11_collects_64 σ7 z8))))) else (bd (i32 S.length + 1) (fun (v9 : Int32) => some (Sum.inl (τ, v9)))) : Option ((Mem × Int32) ⊕ (Bool × Mem))) = y → l_X11_collects_2 τ (i32 S.length) = y := by
          intro y hy
          unfold l_X11_collects_2
          rw [e_gF, hR.1, hlw, show i32 S.length + 1 = i32 (S.length + 1) by rw [i32_1, i32_add], if_neg (i_nle (by omega) (by omega)), e_gI ln_309 (by omega) (by omega), hR.2 _ _ gj, e_gI ln_309 (by omega) (by omega), hR.2 _ _ gi]
          rw [show i32 S.length + 1 = i32 (S.length + 1) by rw [i32_1, i32_add]] at hy
          exact hy
        by_cases hij : i < j
        · by_cases hL : ex = 1000
          · right
            subst hL
            refine ⟨(false, τ), ?_, false, τ, rfl, f, Or.inr ⟨by rw [← hc, col_limit hij], rfl⟩⟩
            show l_X11_collects_2 τ (i32 S.length) = _
            refine hstart ?_
            rw [if_pos (i_lt hij (by omega)), e_gF, hx, if_pos (show i32 1000 = 1000 from rfl)]
          · left
            obtain ⟨υ, e, f2, R2, x2⟩ := r_exchange (σ := τ) (h.fx f) hG (A := S.reverse) (B := W) hij hj (by rw [List.length_reverse]; omega) hR hx
            rw [List.length_reverse] at e
            have l12 := tw_len12 hG hij
            have nL : ¬ i32 ex = 1000 := i_ne (b := 1000) hL (by omega) (by omega)
            have hc2 := col_exch (S := S) (W := W) hG (show ex < 1000 by omega) hij
            have mem2 : ∀ x, x ∈ j :: (tw G j i ++ W) → x < gn G := fun x hx => by
              rcases List.mem_cons.mp hx with h6 | h6
              · rw [h6]; exact hj
              · rcases List.mem_append.mp h6 with h7 | h7
                · exact (tw_mem hj h7).2.1
                · exact hWg' x h7
            cases S with
            | nil =>
              refine ⟨(υ, i32 0), 14 * (1000 - (ex + 1)) + (j :: (tw G j i ++ W)).length, by simp only [List.length_cons, List.length_append]; omega, ?_, i, [], j :: (tw G j i ++ W), ex + 1, υ, rfl, rfl, by omega, by simp only [List.length_cons, List.length_append, List.length_nil] at hlen ⊢; omega, fun y hy => by rw [List.mem_singleton.mp hy]; exact hi, mem2, by rw [← hc, hc2, col_first hG (by omega)], f.trans f2, R2, x2⟩
              show l_X11_collects_2 τ (i32 ([] : List Nat).length) = _
              refine hstart ?_
              rw [if_pos (i_lt hij (by omega)), e_gF, hx, if_neg nL, e, e_bs, if_pos (show i32 ([] : List Nat).length ≤ 0 by decide), e_bs]
              rfl
            | cons k S =>
              refine ⟨(υ, i32 S.length), 14 * (1000 - (ex + 1)) + (i :: j :: (tw G j i ++ W)).length, by simp only [List.length_cons, List.length_append]; omega, ?_, k, S, i :: j :: (tw G j i ++ W), ex + 1, υ, rfl, rfl, by omega, by simp only [List.length_cons, List.length_append] at hlen ⊢; omega, fun y hy => hSg y (List.mem_cons_of_mem _ hy), fun y hy => ?_, by rw [← hc, hc2], f.trans f2, ?_, x2⟩
              · show l_X11_collects_2 τ (i32 (k :: S).length) = _
                refine hstart ?_
                rw [if_pos (i_lt hij (by omega)), e_gF, hx, if_neg nL, e, e_bs, if_neg (show ¬ i32 (k :: S).length ≤ 0 from i_nle (b := 0) (by simp only [List.length_cons]; omega) (by omega)), e_bs, List.length_cons, i32_1, i32_sub (by omega)]
                rfl
              · rcases List.mem_cons.mp hy with h6 | h6
                · rw [h6]; exact hi
                · exact mem2 y h6
              · rw [List.reverse_cons, List.append_assoc] at R2
                exact R2
        · left
          refine ⟨(τ, i32 (S.length + 1)), 14 * (1000 - ex) + W.length, by simp only [List.length_cons]; omega, ?_, i, j :: S, W, ex, τ, rfl, rfl, hex, by simp only [List.length_cons]; omega, fun y hy => ?_, hWg', by rw [← hc, col_move hG hex (by omega)], f, ?_, hx⟩
          · show l_X11_collects_2 τ (i32 S.length) = _
            refine hstart ?_
            rw [if_neg (i_nlt (by omega) (by omega)), e_bd, i32_1, i32_add]
          · rcases List.mem_cons.mp hy with h6 | h6
            · rw [h6]; exact hi
            · exact hSg y h6
          · rw [List.reverse_cons, List.append_assoc]
            exact hR
end RG
end
section
/-! fewer letters and fewer tails never make more exchanges -/
section MO
variable {G H : GD}
theorem col_back (hG : GOK G) {L ex : Nat} (hex : ex ≤ L) : ∀ S W, Srt S → col G L S W ex = col G L [] (S.reverse ++ W) ex := by
  intro S
  induction S with
  | nil => intro W _; rfl
  | cons x S ih =>
    intro W hS
    have hx := (List.pairwise_cons.mp hS).1
    rw [List.reverse_cons, List.append_assoc, List.singleton_append, ← ih (x :: W) (List.pairwise_cons.mp hS).2]
    cases S with
    | nil => exact (col_first hG hex).symm
    | cons y S => exact (col_move hG hex (hx y (List.mem_cons_self ..))).symm
/-- sorted, as a word -/
def Asc (w : List Nat) : Prop := w.Pairwise (fun a b => a ≤ b)
theorem Asc.srt {w : List Nat} (h : Asc w) : Srt w.reverse := by
  unfold Srt
  rw [List.pairwise_reverse]
  exact h
theorem col_sorted (hG : GOK G) {L ex : Nat} (hex : ex ≤ L) {w : List Nat} (h : Asc w) : col G L [] w ex = some (w.reverse, ex) := by
  have e := col_back hG hex w.reverse [] h.srt
  rw [List.reverse_reverse, List.append_nil] at e
  rw [← e, col_nil]
theorem col_swap (hG : GOK G) {L ex : Nat} (hex : ex < L) {A B : List Nat} {j i : Nat} (h : Asc (A ++ [j])) (hi : i < j) : col G L [] (A ++ j :: i :: B) ex = col G L [] (A ++ i :: j :: (tw G j i ++ B)) (ex + 1) := by
  have e1 := col_back hG (Nat.le_of_lt hex) (j :: A.reverse) (i :: B) (by have := h.srt; rwa [List.reverse_append] at this)
  rw [List.reverse_cons, List.reverse_reverse, List.append_assoc, List.singleton_append] at e1
  have hA : Asc A := (List.pairwise_append.mp h).1
  have e2 := col_back hG (show ex + 1 ≤ L by omega) A.reverse (i :: j :: (tw G j i ++ B)) hA.srt
  rw [List.reverse_reverse] at e2
  rw [← e1, ← e2, col_exch hG hex hi]
/-- either sorted, or there is a first wrong place -/
theorem first_wrong : ∀ w : List Nat, Asc w ∨ ∃ A j i B, w = A ++ j :: i :: B ∧ Asc (A ++ [j]) ∧ i < j := by
  have key : ∀ (W A : List Nat), Asc A → Asc (A ++ W) ∨ ∃ P j i B, A ++ W = P ++ j :: i :: B ∧ Asc (P ++ [j]) ∧ i < j := by
    intro W
    induction W with
    | nil => intro A h; left; rw [List.append_nil]; exact h
    | cons i W ih =>
      intro A h
      rcases List.eq_nil_or_concat A with hA | ⟨P, j, hA⟩
      · subst hA
        have := ih [i] (List.pairwise_singleton ..)
        rwa [List.singleton_append] at this
      · have hA' : A = P ++ [j] := by rw [hA, List.concat_eq_append]
        by_cases hij : i < j
        · right
          exact ⟨P, j, i, W, by rw [hA', List.append_assoc, List.singleton_append], hA' ▸ h, hij⟩
        · have hAi : Asc (A ++ [i]) := by
            refine List.pairwise_append.mpr ⟨h, List.pairwise_singleton .., fun a ha b hb => ?_⟩
            rw [List.mem_singleton.mp hb]
            rw [hA'] at ha h
            rcases List.mem_append.mp ha with h1 | h1
            · have := (List.pairwise_append.mp h).2.2 a h1 j (List.mem_singleton_self j)
              omega
            · rw [List.mem_singleton.mp h1]; omega
          have := ih (A ++ [i]) hAi
          rwa [List.append_assoc, List.singleton_append] at this
  intro w
  exact key w [] List.Pairwise.nil
theorem tw_sub (hn : gn G = gn H) (ht : ∀ j i k, gt G j i k ≤ gt H j i k) {j i : Nat} : (tw G j i).Sublist (tw H j i) := by
  have key : ∀ d, (twD G j i d).Sublist (twD H j i d) := by
    intro d
    induction d with
    | zero => exact List.Sublist.slnil
    | succ d ih =>
      rw [twD_succ, twD_succ, hn]
      exact List.Sublist.append ((List.replicate_sublist_replicate _).mpr (ht _ _ _)) ih
  unfold tw
  rw [hn]
  exact key _
theorem col_ge (hG : GOK G) {L : Nat} : ∀ (N : Nat) w ex S e, L - ex ≤ N → ex ≤ L → col G L [] w ex = some (S, e) → ex ≤ e := by
  intro N
  induction N with
  | zero =>
    intro w ex S e hN hex h
    rcases first_wrong w with h1 | ⟨A, j, i, B, rfl, h2, h3⟩
    · rw [col_sorted hG hex h1] at h
      cases h; exact Nat.le_refl _
    · have e1 := col_back hG hex (j :: A.reverse) (i :: B) (by have := h2.srt; rwa [List.reverse_append] at this)
      rw [List.reverse_cons, List.reverse_reverse, List.append_assoc, List.singleton_append] at e1
      have : ex = L := by omega
      subst this
      rw [← e1, col_limit h3] at h
      cases h
  | succ N ih =>
    intro w ex S e hN hex h
    rcases first_wrong w with h1 | ⟨A, j, i, B, rfl, h2, h3⟩
    · rw [col_sorted hG hex h1] at h
      cases h; exact Nat.le_refl _
    · by_cases hx : ex < L
      · rw [col_swap hG hx h2 h3] at h
        have := ih _ _ _ _ (by omega) (by omega) h
        omega
      · exact ih _ _ _ _ (by omega) hex h
theorem col_mono (hG : GOK G) (hH : GOK H) (hn : gn G = gn H) (ht : ∀ j i k, gt G j i k ≤ gt H j i k) {L L' : Nat} :
    ∀ (N : Nat) w w' ex ex' S' e', L' - ex' ≤ N → ex' ≤ L' → col H L' [] w' ex' = some (S', e') → w.Sublist w' → ex + e' ≤ L + ex' → ∃ S e, col G L [] w ex = some (S, e) ∧ e + ex' ≤ ex + e' := by
  intro N
  induction N with
  | zero =>
    intro w w' ex ex' S' e' hN hex' h hw hL
    have hge := col_ge hH _ _ _ _ _ (Nat.le_refl _) hex' h
    rcases first_wrong w' with h1 | ⟨A, j, i, B, rfl, h2, h3⟩
    · rw [col_sorted hH hex' h1] at h
      cases h
      exact ⟨_, ex, col_sorted hG (by omega) (List.Pairwise.sublist hw h1), by omega⟩
    · have e1 := col_back hH hex' (j :: A.reverse) (i :: B) (by have := h2.srt; rwa [List.reverse_append] at this)
      rw [List.reverse_cons, List.reverse_reverse, List.append_assoc, List.singleton_append] at e1
      have : ex' = L' := by omega
      subst this
      rw [← e1, col_limit h3] at h
      cases h
  | succ N ih =>
    intro w w' ex ex' S' e' hN hex' h hw hL
    have hge := col_ge hH _ _ _ _ _ (Nat.le_refl _) hex' h
    rcases first_wrong w' with h1 | ⟨A, j, i, B, rfl, h2, h3⟩
    · rw [col_sorted hH hex' h1] at h
      cases h
      exact ⟨_, ex, col_sorted hG (by omega) (List.Pairwise.sublist hw h1), by omega⟩
    · by_cases hx : ex' < L'
      · rw [col_swap hH hx h2 h3] at h
        have hge2 := col_ge hH _ _ _ _ _ (Nat.le_refl _) (by omega) h
        obtain ⟨P, C, rfl, hP, hC⟩ := List.sublist_append_iff.mp hw
        have other : ∀ C', C = C' → C'.Sublist (i :: j :: (tw H j i ++ B)) → ∃ S e, col G L [] (P ++ C) ex = some (S, e) ∧ e + ex' ≤ ex + e' := by
          intro C' hCC hs
          subst hCC
          obtain ⟨S, e, q1, q2⟩ := ih (P ++ C) _ ex (ex' + 1) S' e' (by omega) (by omega) h (hP.append hs) (by omega)
          exact ⟨S, e, q1, by omega⟩
        have hB : B.Sublist (tw H j i ++ B) := List.sublist_append_right ..
        rcases List.sublist_cons_iff.mp hC with h4 | ⟨C1, rfl, h4⟩
        · rcases List.sublist_cons_iff.mp h4 with h5 | ⟨C2, rfl, h5⟩
          · exact other C rfl (((h5.trans hB).cons j).cons i)
          · exact other _ rfl (((h5.trans hB).cons j).cons₂ i)
        · rcases List.sublist_cons_iff.mp h4 with h5 | ⟨C2, rfl, h5⟩
          · exact other _ rfl (((h5.trans hB).cons₂ j).cons i)
          · have hPj : Asc (P ++ [j]) := List.Pairwise.sublist (hP.append (List.Sublist.refl _)) h2
            have hxL : ex < L := by omega
            rw [col_swap hG hxL hPj h3]
            obtain ⟨S, e, q1, q2⟩ := ih (P ++ i :: j :: (tw G j i ++ C2)) _ (ex + 1) (ex' + 1) S' e' (by omega) (by omega) h (hP.append ((((tw_sub hn ht).append h5).cons₂ j).cons₂ i)) (by omega)
            exact ⟨S, e, q1, by omega⟩
      · exact ih _ _ _ _ _ _ (by omega) hex' h hw hL
end MO
end
