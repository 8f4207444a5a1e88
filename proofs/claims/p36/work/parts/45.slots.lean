/-! all places at once: memory with the places' whole numbers f -/
abbrev SF : Type := Nat → Nat → Int
def PS (σ : Mem) (f : SF) : Mem := (σ.1, fun x y => if x = 313 ∧ y < 600 then oi (f (y / 6) (y % 6)) else σ.2 x y)
theorem PS_2 {σ : Mem} {f : SF} {x : Nat} (h : x ≠ 313) : (PS σ f).2 x = σ.2 x := funext (fun _ => if_neg (fun q => h q.1))
section SL
variable {σ : Mem} {G : GD} {f : SF}
def uV (a : Nat → Int) (i : Nat) (x : Int) : Nat → Int := fun k => if k = i then x else a k
end SL
/-! inverses -/
def invU (G : GD) (a : Nat → Int) : Nat → (Nat → Int)
  | 0 => fun _ => 0
  | k + 1 => uV (invU G a k) k (-(mul G a (invU G a k) k))
def inv (G : GD) (a : Nat → Int) : Nat → Int := invU G a (gn G)
theorem mul_one {G : GD} (hG : GOK G) {a b : Nat → Int} {m : Nat} (hm : gw G m ≤ 1) (hm2 : m < gn G) : mul G a b m = a m + b m := by
  unfold mul
  rw [mulU_one hG hm (gn G) (Nat.le_refl _), if_pos hm2]
theorem invU_one {G : GD} (hG : GOK G) {a : Nat → Int} {m : Nat} (hm : gw G m ≤ 1) (hm2 : m < gn G) : ∀ k, invU G a k m = if m < k then -a m else 0 := by
  intro k
  induction k with
  | zero => rw [if_neg (Nat.not_lt_zero m)]; rfl
  | succ k ih =>
    show uV (invU G a k) k _ m = _
    unfold uV
    by_cases h1 : m = k
    · subst h1
      rw [if_pos rfl, mul_one hG hm hm2, ih, if_neg (Nat.lt_irrefl m), if_pos (Nat.lt_succ_self m), Int.add_zero]
    · rw [if_neg h1, ih]
      by_cases h2 : m < k
      · rw [if_pos h2, if_pos (by omega)]
      · rw [if_neg h2, if_neg (by omega)]
theorem inv_one {G : GD} (hG : GOK G) {a : Nat → Int} {m : Nat} (hm : gw G m ≤ 1) (hm2 : m < gn G) : inv G a m = -a m := by
  unfold inv
  rw [invU_one hG hm hm2, if_pos hm2]
/-- exponents of weight one within a bound -/
def SB (G : GD) (B : Int) (a : Nat → Int) : Prop := ∀ j, j < gn G → gw G j = 1 → -B ≤ a j ∧ a j ≤ B
theorem SB.mul {G : GD} (hG : GOK G) {A B : Int} {a b : Nat → Int} (ha : SB G A a) (hb : SB G B b) : SB G (A + B) (mul G a b) := fun j hj hw => by
  rw [mul_one hG (by omega) hj]
  have h1 := ha j hj hw
  have h2 := hb j hj hw
  omega
theorem SB.inv {G : GD} (hG : GOK G) {A : Int} {a : Nat → Int} (ha : SB G A a) : SB G A (inv G a) := fun j hj hw => by
  rw [inv_one hG (by omega) hj]
  have h1 := ha j hj hw
  omega
/-- so many times itself -/
def pw (G : GD) (x : Nat → Int) : Nat → (Nat → Int)
  | 0 => fun _ => 0
  | k + 1 => mul G (pw G x k) x
theorem SB.zero {G : GD} {A : Int} (hA : 0 ≤ A) : SB G A (fun _ => 0) := fun j _ _ => ⟨by show -A ≤ 0; omega, by show 0 ≤ A; omega⟩
section SL2
variable {σ : Mem} {G : GD} {f : SF}
end SL2

