/-! arguments looked at by both; the reference asked whether it is a group -/
section AR
variable {σ : Mem} {G : GD}
def isReg (x : Int32) : Bool := decide (0 ≤ x.toInt ∧ x.toInt ≤ 9)
def isGen (n : Nat) (x : Int32) : Bool := decide (1 ≤ x.toInt ∧ x.toInt ≤ n)
theorem i32_of {x : Int32} (h : 0 ≤ x.toInt) : x = i32 x.toInt.toNat := by
  have h2 := Int32.toInt_lt x
  rw [← Int32.toInt_inj, i32_toInt (by omega)]
  omega
theorem isReg_of {r : Nat} (h : r < 10) : isReg (i32 r) = true := decide_eq_true (by rw [i32_toInt (by omega)]; omega)
theorem isGen_of {n k : Nat} (hn : n ≤ 6) (h : k < n) : isGen n (i32 (k + 1)) = true := decide_eq_true (by rw [i32_toInt (by omega)]; omega)
theorem lt32 {x : Int32} {k : Nat} (hk : k < 2 ^ 31) : x < i32 k ↔ x.toInt < k := by rw [Int32.lt_iff_toInt_lt, i32_toInt hk]
theorem gt32 {x : Int32} {k : Nat} (hk : k < 2 ^ 31) : i32 k < x ↔ (k : Int) < x.toInt := by rw [Int32.lt_iff_toInt_lt, i32_toInt hk]
theorem le32 {x : Int32} {k : Nat} (hk : k < 2 ^ 31) : x ≤ i32 k ↔ x.toInt ≤ k := by rw [Int32.le_iff_toInt_le, i32_toInt hk]
theorem ge32 {x : Int32} {k : Nat} (hk : k < 2 ^ 31) : i32 k ≤ x ↔ (k : Int) ≤ x.toInt := by rw [Int32.le_iff_toInt_le, i32_toInt hk]
theorem c_isReg {x : Int32} : f_X10_isRegister σ x = some (isReg x) := by
  unfold f_X10_isRegister isReg
  by_cases h1 : x < 0
  · have := (lt32 (k := 0) (by omega)).mp h1
    rw [if_pos h1, decide_eq_false (by omega)]; rfl
  · have h1' : ¬ x.toInt < 0 := fun z => h1 ((lt32 (k := 0) (by omega)).mpr z)
    rw [if_neg h1]
    by_cases h2 : 10 ≤ x
    · have := (ge32 (k := 10) (by omega)).mp h2
      rw [if_pos h2, decide_eq_false (by omega)]; rfl
    · have h2' : ¬ (10 : Int) ≤ x.toInt := fun z => h2 ((ge32 (k := 10) (by omega)).mpr z)
      rw [if_neg h2, decide_eq_true (by omega)]; rfl
theorem c_isGen (h : σ.1 2 0 = i32 (gn G)) (hn : gn G ≤ 6) {x : Int32} : f_X10_isGenerator σ x = some (isGen (gn G) x) := by
  unfold f_X10_isGenerator isGen
  by_cases h1 : x < 1
  · have := (lt32 (k := 1) (by omega)).mp h1
    rw [if_pos h1, decide_eq_false (by omega)]; rfl
  · have h1' : ¬ x.toInt < 1 := fun z => h1 ((lt32 (k := 1) (by omega)).mpr z)
    rw [if_neg h1, e_gF, h]
    by_cases h2 : i32 (gn G) < x
    · have := (gt32 (by omega)).mp h2
      rw [if_pos h2, decide_eq_false (by omega)]; rfl
    · have h2' : ¬ (gn G : Int) < x.toInt := fun z => h2 ((gt32 (by omega)).mpr z)
      rw [if_neg h2, decide_eq_true (by omega)]; rfl
theorem LO.row {a k : Nat} {v : Int32} (h : 306 ≤ a) : LO σ (wI σ a k v) := fun x hx => ⟨by funext y; rw [wI_1, if_neg (by omega)], rfl⟩
/-- is it consistent, the class's answer -/
theorem c_cons {S : AS} {c : Nat} (h : ICls c S σ) : ∃ b, σ.1 40 3 = b2i b ∧ (b = true ↔ Cons (aG S)) := by
  obtain ⟨b, h1, h2, _⟩ := h.2.2.2.2.2.2.2.1
  exact ⟨b, h1, h2⟩
theorem o3_oi {v : Int} (h : -999 ≤ v ∧ v ≤ 999) : (oi v).toInt32 = o3 v := by
  rw [← Int32.toInt_inj, Int64.toInt_toInt32, oi_toInt (by omega) (by omega)]
  unfold o3
  rw [Int32.toInt_ofInt]
end AR
/-! fault, collected, consistent, exponent -/
section Q1
theorem rf_5 {r : Nat} (h : r < 10) : rf 5 r = 6 + r := by
  have h1 : (List.range 10).all (fun k => rf 5 k == 6 + k) = true := by decide +kernel
  have h2 := List.all_eq_true.mp h1 r (List.mem_range.mpr h)
  exact eq_of_beq h2
theorem ln_reg {r : Nat} (h : r < 10) : ln (6 + r) = 6 := by
  have h1 : (List.range 10).all (fun k => ln (6 + k) == 6) = true := by decide +kernel
  have h2 := List.all_eq_true.mp h1 r (List.mem_range.mpr h)
  exact eq_of_beq h2
end Q1

