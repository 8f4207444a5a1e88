/-! the class's arithmetic, put together -/
section CQ
variable {G : GD} {σ : Mem}
theorem e_cL6 {α : Type} {a b : Nat} {f : Mem → Option α} (ha : ln a = 6) (hb : ln b = 6) : cL σ a 0 b 0 6 f = f (cpL σ a b 0 0 6) := by
  unfold cL
  have h6 : (6 : Int32).toNatClampNeg = 6 := rfl
  have h0 : (0 : Int32).toNatClampNeg = 0 := rfl
  rw [h6, h0, ha, hb, if_pos ⟨⟨by decide, by decide, by decide⟩, by omega, by omega⟩]
theorem c_copy {a b : Nat} {A : Nat → Int} (ha : ln a = 6) (hb : ln b = 6) (hA : H6 σ a A) :
    ∃ τ, f_X0_copy σ a b = some τ ∧ OL (fun x => x = b) σ τ ∧ H6 τ b A := by
  unfold f_X0_copy
  rw [e_cL6 ha hb]
  refine ⟨_, rfl, ⟨rfl, fun x hx => ?_⟩, fun k hk => ?_⟩
  · funext y
    simp only [cpL]
    rw [if_neg hx]
  · have : (cpL σ a b 0 0 6).2 b k = σ.2 a k := by
      simp only [cpL, if_true, va_cpy, Nat.zero_add, Nat.sub_zero]
      rw [if_pos ⟨Nat.zero_le _, hk⟩]
    rw [this]; exact hA k hk
theorem c_areSame {a b : Nat} {A B : Nat → Int} (ha : ln a = 6) (hb : ln b = 6) (hA : H6 σ a A) (hB : H6 σ b B) {r : Bool} (hr : r = true ↔ ∀ k, k < 6 → oi (A k) = oi (B k)) :
    f_X0_areSame σ a b = some r := by
  unfold f_X0_areSame
  refine loop_all 6 (fun k => oi (A k) = oi (B k)) (fun k => inferInstance) (fun k hk => ?_) ?_ _ hr
  · show l_X0_areSame_2 _ _ _ _ = _
    unfold l_X0_areSame_2
    rw [i32_6, if_neg (i_nle hk (by omega)), e_gL ha hk (by omega), e_gL hb hk (by omega), hA k hk, hB k hk, i32_1, i32_add]
    split <;> rfl
  · show l_X0_areSame_2 _ _ _ _ = _
    unfold l_X0_areSame_2
    rw [i32_6, if_pos (i_le (Nat.le_refl _) (by omega))]
theorem c_isWithin {a : Nat} {A : Nat → Int} {g : Int64} (ha : ln a = 6) (hA : H6 σ a A) {r : Bool} (hr : r = true ↔ ∀ k, k < 6 → -g ≤ oi (A k) ∧ oi (A k) ≤ g) :
    f_X0_isWithin σ a g = some r := by
  unfold f_X0_isWithin
  refine loop_all 6 (fun k => -g ≤ oi (A k) ∧ oi (A k) ≤ g) (fun k => inferInstance) (fun k hk => ?_) ?_ _ hr
  · show l_X0_isWithin_2 _ _ _ _ = _
    unfold l_X0_isWithin_2
    rw [i32_6, if_neg (i_nle hk (by omega)), e_gL ha hk (by omega), e_gL ha hk (by omega), hA k hk, i32_1, i32_add]
    by_cases h1 : oi (A k) < -g
    · rw [if_pos h1, if_neg (fun q => Int64.not_le.mpr h1 q.1)]
    · rw [if_neg h1]
      by_cases h2 : oi (A k) ≤ g
      · rw [if_pos h2, if_pos ⟨Int64.not_lt.mp h1, h2⟩]
      · rw [if_neg h2, if_neg (fun q => h2 q.2)]
  · show l_X0_isWithin_2 _ _ _ _ = _
    unfold l_X0_isWithin_2
    rw [i32_6, if_pos (i_le (Nat.le_refl _) (by omega))]
/-- the class looks at six exponents, the reference at those of the group -/
theorem all6 (hG : GOK G) {A : Nat → Int} {p : Int → Prop} (hp : p 0) (zA : Z6 G A) : (∀ k, k < 6 → p (A k)) ↔ (∀ k, k < gn G → p (A k)) := by
  have hn := hG.2.1
  refine ⟨fun h k hk => h k (by omega), fun h k hk => ?_⟩
  by_cases h1 : k < gn G
  · exact h k h1
  · rw [zA k (by omega) hk]; exact hp
theorem c_isElement (hG : GOK G) {a : Nat} {A : Nat → Int} (ha : ln a = 6) (hA : H6 σ a A) (zA : Z6 G A) : f_X0_isWithin σ a 999 = some (isEl G A) := by
  refine c_isWithin ha hA ?_
  unfold isEl
  rw [decide_eq_true_eq]
  exact (all6 hG (p := fun x => -999 ≤ oi x ∧ oi x ≤ 999) (by decide) zA).symm
theorem le_0 {x : Int64} : (-0 ≤ x ∧ x ≤ 0) ↔ x = 0 := by
  constructor
  · intro h
    exact Int64.le_antisymm h.2 h.1
  · intro h; subst h; decide
theorem c_isOne (hG : GOK G) {a : Nat} {A : Nat → Int} (ha : ln a = 6) (hA : H6 σ a A) (zA : Z6 G A) : f_X0_isOne σ a = some (isO G A) := by
  unfold f_X0_isOne
  rw [c_isWithin (g := 0) (r := isO G A) ha hA ?_, e_bs]
  unfold isO
  rw [decide_eq_true_eq]
  have h1 : (∀ k, k < 6 → -0 ≤ oi (A k) ∧ oi (A k) ≤ 0) ↔ (∀ k, k < 6 → oi (A k) = 0) := ⟨fun h k hk => le_0.mp (h k hk), fun h k hk => le_0.mpr (h k hk)⟩
  exact (h1.trans (all6 hG (p := fun x => oi x = 0) (by decide) zA)).symm
theorem c_same (hG : GOK G) {a b : Nat} {A B : Nat → Int} (ha : ln a = 6) (hb : ln b = 6) (hA : H6 σ a A) (hB : H6 σ b B) (zA : Z6 G A) (zB : Z6 G B) : f_X0_areSame σ a b = some (areS G A B) := by
  have hn := hG.2.1
  refine c_areSame ha hb hA hB ?_
  unfold areS
  rw [decide_eq_true_eq]
  refine ⟨fun h k hk => ?_, fun h k hk => h k (by omega)⟩
  by_cases h1 : k < gn G
  · exact h k h1
  · rw [zA k (by omega) hk, zB k (by omega) hk]
theorem Z6.muls (hG : GOK G) {A B : Nat → Int} (zA : Z6 G A) : Z6 G (mul G A B) := fun k h1 h2 => by
  rw [mul_beyond hG h1]; exact zA k h1 h2
theorem Z6.invs {A : Nat → Int} : Z6 G (inv G A) := fun k h1 _ => inv_beyond _ h1
theorem SB.w1 (hG : GOK G) {B : Int} {A : Nat → Int} (h : SB G B A) (hB : B ≤ 2 ^ 31) : W1 G A := fun k hk hw => by
  have := h k (gn_of_one hG hw) hw
  exact ⟨by omega, by omega⟩
theorem ns2 {p q x : Nat} (hp : notSum p) (hq : notSum q) (h : x = p ∨ x = q) : notSum x := by
  rcases h with h | h
  · rw [h]; exact hp
  · rw [h]; exact hq
theorem c_commutator (hG : GOK G) (hP : PolyOK G σ) {out a b : Nat} {A B : Nat → Int} (hout : ln out = 6) (ha : ln a = 6) (hb : ln b = 6) (hA : H6 σ a A) (hB : H6 σ b B) (ho : out ≠ 73) (ho2 : out ≠ 79) (hos : notSum out) (ha3 : a ≠ 73 ∧ a ≠ 78 ∧ a ≠ 79) (hb3 : b ≠ 73 ∧ b ≠ 78 ∧ b ≠ 79) {M : Int} (hM : 8 * M ≤ 2 ^ 31) (hM0 : 0 ≤ M) (sA : SB G M A) (sB : SB G M B) (zA : Z6 G A) (zB : Z6 G B) :
    ∃ τ, f_X0_commutator σ out a b = some τ ∧ OL (fun x => x = 73 ∨ x = 78 ∨ x = 79 ∨ x = out) σ τ ∧ H6 τ out (mul G (inv G (mul G B A)) (mul G A B)) := by
  have n73 : notSum 73 := fun k hk => by omega
  have n78 : notSum 78 := fun k hk => by omega
  have n79 : notSum 79 := fun k hk => by omega
  unfold f_X0_commutator
  obtain ⟨τ1, e1, o1, r1⟩ := c_product hG hP (out := 79) ln_79 ha hb hA hB (by omega) n79 ha3.1 hb3.1 (sA.w1 hG (by omega)) (sB.w1 hG (by omega)) zA
  rw [e1, e_bs]
  have P1 : PolyOK G τ1 := hP.keep o1 (fun x hx => ns2 n73 n79 hx)
  have A1 : H6 τ1 a A := hA.keep o1 (by omega)
  have B1 : H6 τ1 b B := hB.keep o1 (by omega)
  obtain ⟨τ2, e2, o2, r2⟩ := c_product hG P1 (out := 78) ln_78 hb ha B1 A1 (by omega) n78 hb3.1 ha3.1 (sB.w1 hG (by omega)) (sA.w1 hG (by omega)) zB
  rw [e2, e_bs]
  have P2 : PolyOK G τ2 := P1.keep o2 (fun x hx => ns2 n73 n78 hx)
  obtain ⟨τ3, e3, o3, r3⟩ := c_inverse hG P2 (out := 78) (a := 78) ln_78 ln_78 r2 (by omega) n78 (by omega) ((SB.mul hG sB sA).w1 hG (by omega))
  rw [e3, e_bs]
  have P3 : PolyOK G τ3 := P2.keep o3 (fun x hx => ns2 n73 n78 hx)
  have R3 : H6 τ3 79 (mul G A B) := (r1.keep o2 (by omega)).keep o3 (by omega)
  obtain ⟨τ4, e4, o4, r4⟩ := c_product hG P3 (out := out) (a := 78) (b := 79) hout ln_78 ln_79 r3 R3 ho hos (by omega) (by omega) (SB.w1 hG (SB.invU hG (SB.mul hG sB sA) _) (by omega)) ((SB.mul hG sA sB).w1 hG (by omega)) Z6.invs
  rw [e4, e_bs]
  refine ⟨τ4, rfl, ?_, r4⟩
  refine (o1.mono ?_).trans ((o2.mono ?_).trans ((o3.mono ?_).trans (o4.mono ?_))) <;> intro x hx <;> omega
theorem c_conjugated (hG : GOK G) (hP : PolyOK G σ) {out a u : Nat} {A U : Nat → Int} (hout : ln out = 6) (ha : ln a = 6) (hu : ln u = 6) (hA : H6 σ a A) (hU : H6 σ u U) (ho : out ≠ 73) (ho2 : out ≠ 79) (hos : notSum out) (ha3 : a ≠ 73 ∧ a ≠ 78 ∧ a ≠ 79) (hu3 : u ≠ 73 ∧ u ≠ 78 ∧ u ≠ 79) {M : Int} (hM : 8 * M ≤ 2 ^ 31) (hM0 : 0 ≤ M) (sA : SB G M A) (sU : SB G M U) (zA : Z6 G A) :
    ∃ τ, f_X0_conjugated σ out a u = some τ ∧ OL (fun x => x = 73 ∨ x = 78 ∨ x = 79 ∨ x = out) σ τ ∧ H6 τ out (mul G (inv G U) (mul G A U)) := by
  have n73 : notSum 73 := fun k hk => by omega
  have n78 : notSum 78 := fun k hk => by omega
  have n79 : notSum 79 := fun k hk => by omega
  unfold f_X0_conjugated
  obtain ⟨τ1, e1, o1, r1⟩ := c_product hG hP (out := 79) ln_79 ha hu hA hU (by omega) n79 ha3.1 hu3.1 (sA.w1 hG (by omega)) (sU.w1 hG (by omega)) zA
  rw [e1, e_bs]
  have P1 : PolyOK G τ1 := hP.keep o1 (fun x hx => ns2 n73 n79 hx)
  have U1 : H6 τ1 u U := hU.keep o1 (by omega)
  obtain ⟨τ2, e2, o2, r2⟩ := c_inverse hG P1 (out := 78) (a := u) ln_78 hu U1 (by omega) n78 hu3.1 (sU.w1 hG (by omega))
  rw [e2, e_bs]
  have P2 : PolyOK G τ2 := P1.keep o2 (fun x hx => ns2 n73 n78 hx)
  have R2 : H6 τ2 79 (mul G A U) := r1.keep o2 (by omega)
  obtain ⟨τ3, e3, o3, r3⟩ := c_product hG P2 (out := out) (a := 78) (b := 79) hout ln_78 ln_79 r2 R2 ho hos (by omega) (by omega) (SB.w1 hG (SB.invU hG sU _) (by omega)) ((SB.mul hG sA sU).w1 hG (by omega)) Z6.invs
  rw [e3, e_bs]
  refine ⟨τ3, rfl, ?_, r3⟩
  refine (o1.mono ?_).trans ((o2.mono ?_).trans (o3.mono ?_)) <;> intro x hx <;> omega
theorem c_doCommute (hG : GOK G) (hP : PolyOK G σ) {a b : Nat} {A B : Nat → Int} (ha : ln a = 6) (hb : ln b = 6) (hA : H6 σ a A) (hB : H6 σ b B) (ha3 : a ≠ 73 ∧ a ≠ 78 ∧ a ≠ 79) (hb3 : b ≠ 73 ∧ b ≠ 78 ∧ b ≠ 79) {M : Int} (hM : 8 * M ≤ 2 ^ 31) (hM0 : 0 ≤ M) (sA : SB G M A) (sB : SB G M B) (zA : Z6 G A) (zB : Z6 G B) :
    ∃ τ, f_X0_doCommute σ a b = some (areS G (mul G A B) (mul G B A), τ) ∧ OL (fun x => x = 73 ∨ x = 78 ∨ x = 79) σ τ := by
  have n73 : notSum 73 := fun k hk => by omega
  have n78 : notSum 78 := fun k hk => by omega
  have n79 : notSum 79 := fun k hk => by omega
  unfold f_X0_doCommute
  obtain ⟨τ1, e1, o1, r1⟩ := c_product hG hP (out := 78) ln_78 ha hb hA hB (by omega) n78 ha3.1 hb3.1 (sA.w1 hG (by omega)) (sB.w1 hG (by omega)) zA
  rw [e1, e_bs]
  have P1 : PolyOK G τ1 := hP.keep o1 (fun x hx => ns2 n73 n78 hx)
  have A1 : H6 τ1 a A := hA.keep o1 (by omega)
  have B1 : H6 τ1 b B := hB.keep o1 (by omega)
  obtain ⟨τ2, e2, o2, r2⟩ := c_product hG P1 (out := 79) ln_79 hb ha B1 A1 (by omega) n79 hb3.1 ha3.1 (sB.w1 hG (by omega)) (sA.w1 hG (by omega)) zB
  rw [e2, e_bs, c_same hG ln_78 ln_79 (r1.keep o2 (by omega)) r2 (zA.muls hG) (zB.muls hG), e_bs]
  refine ⟨τ2, rfl, ?_⟩
  refine (o1.mono ?_).trans (o2.mono ?_) <;> intro x hx <;> omega
end CQ
