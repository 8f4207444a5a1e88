/-! the class's lattice: its rows, floors -/
section LTR
variable {σ : Mem}
/-- the floor of a quotient, as the class finds it -/
def flo (x y : Int) : Int := if (0 ≤ x ↔ 0 ≤ y) ∨ x.tdiv y * y = x then x.tdiv y else x.tdiv y - 1
theorem i64_neg {z : Int64} : z.toBitVec.msb = decide (z.toInt < 0) := BitVec.msb_eq_toInt
theorem i64_xor {x y : Int64} : 0 ≤ (x ^^^ y) ↔ (0 ≤ x.toInt ↔ 0 ≤ y.toInt) := by
  have h0 : (0 : Int64).toInt = 0 := by decide
  have h1 : (x ^^^ y).toBitVec.msb = (x.toBitVec.msb ^^ y.toBitVec.msb) := by
    rw [Int64.toBitVec_xor, BitVec.msb_xor]
  rw [i64_neg, i64_neg, i64_neg] at h1
  rw [Int64.le_iff_toInt_le, h0]
  by_cases hx : x.toInt < 0
  · by_cases hy : y.toInt < 0
    · rw [decide_eq_true hx, decide_eq_true hy] at h1
      have := of_decide_eq_false h1
      constructor
      · intro _
        constructor <;> intro _ <;> omega
      · intro _; omega
    · rw [decide_eq_true hx, decide_eq_false hy] at h1
      have := of_decide_eq_true h1
      constructor
      · intro _; omega
      · intro q
        have := q.mpr (by omega)
        omega
  · by_cases hy : y.toInt < 0
    · rw [decide_eq_false hx, decide_eq_true hy] at h1
      have := of_decide_eq_true h1
      constructor
      · intro _; omega
      · intro q
        have := q.mp (by omega)
        omega
    · rw [decide_eq_false hx, decide_eq_false hy] at h1
      have := of_decide_eq_false h1
      constructor
      · intro _
        constructor <;> intro _ <;> omega
      · intro _; omega
theorem c_floorDiv {x y : Int} (hx : Wi (2 ^ 62) x) (hy : Wi (2 ^ 62) y) (h0 : y ≠ 0) : f_J9_floorDiv_f86c9 σ (oi x) (oi y) = some (oi (flo x y)) := by
  have h1 := hx.1
  have h2 := hx.2
  have h3 := hy.1
  have h4 := hy.2
  have e := i64_xor (x := oi x) (y := oi y)
  rw [oi_toInt (by omega) (by omega), oi_toInt (by omega) (by omega)] at e
  have hm := (tmod_btw (x := x) h0)
  have wm : Wi (2 ^ 62) (x - x.tdiv y * y) := ⟨by omega, by omega⟩
  have hex : oi (x.tdiv y) * oi y = oi x ↔ x.tdiv y * y = x := by
    constructor
    · intro q
      have q2 : oi (x - x.tdiv y * y) = 0 := by
        rw [← oi_sub, ← oi_mul, q]
        exact Int64.sub_self _
      have := (oi_is0 wm).mp q2
      omega
    · intro q
      rw [oi_mul, q]
  unfold f_J9_floorDiv_f86c9 flo
  rw [e_nzL (fun q => h0 ((oi_is0 hy).mp q)), e_bd, oi_quo hx hy]
  by_cases c1 : (0 ≤ x ↔ 0 ≤ y)
  · rw [if_pos (e.mpr c1), if_pos (Or.inl c1)]
  · rw [if_neg (fun q => c1 (e.mp q))]
    by_cases c2 : x.tdiv y * y = x
    · rw [if_pos (hex.mpr c2), if_pos (Or.inr c2)]
    · rw [if_neg (fun q => c2 (hex.mp q)), if_neg (fun q => by rcases q with q | q; exact c1 q; exact c2 q)]
      show some (oi (x.tdiv y) - oi 1) = _
      rw [oi_sub]
/-- what is left lies on the side of the divisor -/
theorem flo_rest {x y : Int} (h : y ≠ 0) : (0 < y → 0 ≤ x - flo x y * y ∧ x - flo x y * y < y) ∧ (y < 0 → y < x - flo x y * y ∧ x - flo x y * y ≤ 0) := by
  obtain ⟨b, l⟩ := tmod_btw (x := x) h
  unfold Btw at b
  have e2 : x - (x.tdiv y - 1) * y = x - x.tdiv y * y + y := by rw [Int.sub_mul]; omega
  unfold flo
  by_cases c : (0 ≤ x ↔ 0 ≤ y) ∨ x.tdiv y * y = x
  · rw [if_pos c]
    constructor <;> intro hy <;> omega
  · rw [if_neg c, e2]
    constructor <;> intro hy <;> omega
theorem flo_zero {y : Int} : flo 0 y = 0 := by
  unfold flo
  rw [Int.zero_tdiv, if_pos (Or.inr (Int.zero_mul y))]
theorem c_sub {a x p n : Nat} {t : Int64} (hn : n ≤ 6) (h0 : σ.1 a 0 = i32 n) (hx : ln x = 6) (hp : ln p = 6) (hxp : x ≠ p) : f_X3_subtract σ a x p t = some (rwL σ x (fun y => if y < n then σ.2 x y - t * σ.2 p y else σ.2 x y)) := by
  unfold f_X3_subtract
  refine loop_at (body := fun (z2 : (Mem × Int32)) => l_X3_subtract_3 a x p t z2.1 z2.2) (fun i => (rwL σ x (fun y => if y < i then σ.2 x y - t * σ.2 p y else σ.2 x y), i32 i)) 0 n ?_ (by omega) (fun i _ hi => ?_) ?_
  · exact Prod.ext (rwL_id (fun y => if_neg (Nat.not_lt_zero _))) rfl
  · show l_X3_subtract_3 a x p t (rwL σ x (fun y => if y < i then σ.2 x y - t * σ.2 p y else σ.2 x y)) (i32 i) = _
    have g0 : (rwL σ x (fun y => if y < i then σ.2 x y - t * σ.2 p y else σ.2 x y)).1 a 0 = i32 n := h0
    unfold l_X3_subtract_3
    rw [e_gF, g0, if_neg (i_nle hi (by omega)), e_gL hx (by omega) (by omega), e_gL hp (by omega) (by omega), e_pL hx (by omega) (by omega), rwL_w, rwL_a, if_neg (Nat.lt_irrefl _), rwL_x (fun q => hxp q.symm), i32_1, i32_add]
    refine congrArg (fun τ => some (Sum.inl (τ, i32 (i + 1)))) (rwL_congr (fun y => ?_))
    by_cases hy : y = i
    · rw [if_pos hy, hy, if_pos (show i < i + 1 by omega)]
    · rw [if_neg hy]
      by_cases h2 : y < i
      · rw [if_pos h2, if_pos (show y < i + 1 by omega)]
      · rw [if_neg h2, if_neg (show ¬ y < i + 1 by omega)]
  · show l_X3_subtract_3 a x p t (rwL σ x (fun y => if y < n then σ.2 x y - t * σ.2 p y else σ.2 x y)) (i32 n) = _
    have g0 : (rwL σ x (fun y => if y < n then σ.2 x y - t * σ.2 p y else σ.2 x y)).1 a 0 = i32 n := h0
    unfold l_X3_subtract_3
    rw [e_gF, g0, if_pos (i_le (Nat.le_refl _) (by omega))]
theorem c_negate {a x n : Nat} (hn : n ≤ 6) (h0 : σ.1 a 0 = i32 n) (hx : ln x = 6) : f_X3_negate σ a x = some (rwL σ x (fun y => if y < n then -σ.2 x y else σ.2 x y)) := by
  unfold f_X3_negate
  refine loop_at (body := fun (z2 : (Mem × Int32)) => l_X3_negate_2 a x z2.1 z2.2) (fun i => (rwL σ x (fun y => if y < i then -σ.2 x y else σ.2 x y), i32 i)) 0 n ?_ (by omega) (fun i _ hi => ?_) ?_
  · exact Prod.ext (rwL_id (fun y => if_neg (Nat.not_lt_zero _))) rfl
  · show l_X3_negate_2 a x (rwL σ x (fun y => if y < i then -σ.2 x y else σ.2 x y)) (i32 i) = _
    have g0 : (rwL σ x (fun y => if y < i then -σ.2 x y else σ.2 x y)).1 a 0 = i32 n := h0
    unfold l_X3_negate_2
    rw [e_gF, g0, if_neg (i_nle hi (by omega)), e_gL hx (by omega) (by omega), e_pL hx (by omega) (by omega), rwL_w, rwL_a, if_neg (Nat.lt_irrefl _), i32_1, i32_add]
    refine congrArg (fun τ => some (Sum.inl (τ, i32 (i + 1)))) (rwL_congr (fun y => ?_))
    by_cases hy : y = i
    · rw [if_pos hy, hy, if_pos (show i < i + 1 by omega)]
    · rw [if_neg hy]
      by_cases h2 : y < i
      · rw [if_pos h2, if_pos (show y < i + 1 by omega)]
      · rw [if_neg h2, if_neg (show ¬ y < i + 1 by omega)]
  · show l_X3_negate_2 a x (rwL σ x (fun y => if y < n then -σ.2 x y else σ.2 x y)) (i32 n) = _
    have g0 : (rwL σ x (fun y => if y < n then -σ.2 x y else σ.2 x y)).1 a 0 = i32 n := h0
    unfold l_X3_negate_2
    rw [e_gF, g0, if_pos (i_le (Nat.le_refl _) (by omega))]
/-- two rows change places -/
def swR (σ : Mem) (x p i : Nat) : Mem := (σ.1, fun z y => if z = x then (if y < i then σ.2 p y else σ.2 x y) else if z = p then (if y < i then σ.2 x y else σ.2 p y) else σ.2 z y)
theorem c_swap {a x n : Nat} (hn : n ≤ 6) (h0 : σ.1 a 0 = i32 n) (hx : ln x = 6) (hp : ln (rf a 2) = 6) (hxp : x ≠ rf a 2) : f_X3_swapWithSpare σ a x = some (swR σ x (rf a 2) n) := by
  unfold f_X3_swapWithSpare
  have vx : ∀ i y, (swR σ x (rf a 2) i).2 x y = if y < i then σ.2 (rf a 2) y else σ.2 x y := fun i y => if_pos rfl
  have vp : ∀ i y, (swR σ x (rf a 2) i).2 (rf a 2) y = if y < i then σ.2 x y else σ.2 (rf a 2) y := fun i y => by
    show (if rf a 2 = x then _ else if rf a 2 = rf a 2 then _ else _) = _
    rw [if_neg (fun q => hxp q.symm), if_pos rfl]
  refine loop_at (body := fun (z2 : (Mem × Int32)) => l_X3_swapWithSpare_2 a x z2.1 z2.2) (fun i => (swR σ x (rf a 2) i, i32 i)) 0 n ?_ (by omega) (fun i _ hi => ?_) ?_
  · refine Prod.ext (Prod.ext rfl ?_) rfl
    funext z y
    show (if z = x then (if y < 0 then σ.2 (rf a 2) y else σ.2 x y) else if z = rf a 2 then (if y < 0 then σ.2 x y else σ.2 (rf a 2) y) else σ.2 z y) = σ.2 z y
    by_cases h1 : z = x
    · rw [if_pos h1, if_neg (Nat.not_lt_zero _), h1]
    · rw [if_neg h1]
      by_cases h2 : z = rf a 2
      · rw [if_pos h2, if_neg (Nat.not_lt_zero _), h2]
      · rw [if_neg h2]
  · show l_X3_swapWithSpare_2 a x (swR σ x (rf a 2) i) (i32 i) = _
    have g0 : (swR σ x (rf a 2) i).1 a 0 = i32 n := h0
    unfold l_X3_swapWithSpare_2
    rw [e_gF, g0, if_neg (i_nle hi (by omega)), e_gL hx (by omega) (by omega), e_gL hp (by omega) (by omega), e_pL hx (by omega) (by omega), e_pL hp (by omega) (by omega), vx, vp, if_neg (Nat.lt_irrefl _), if_neg (Nat.lt_irrefl _), i32_1, i32_add]
    refine congrArg (fun τ => some (Sum.inl (τ, i32 (i + 1)))) (Prod.ext rfl ?_)
    funext z y
    show (if z = rf a 2 ∧ y = i then σ.2 x i else if z = x ∧ y = i then σ.2 (rf a 2) i else if z = x then (if y < i then σ.2 (rf a 2) y else σ.2 x y) else if z = rf a 2 then (if y < i then σ.2 x y else σ.2 (rf a 2) y) else σ.2 z y) = (if z = x then (if y < i + 1 then σ.2 (rf a 2) y else σ.2 x y) else if z = rf a 2 then (if y < i + 1 then σ.2 x y else σ.2 (rf a 2) y) else σ.2 z y)
    by_cases h1 : z = x
    · rw [if_neg (fun q => hxp (h1.symm.trans q.1)), if_pos h1, if_pos h1]
      by_cases h2 : y = i
      · rw [if_pos ⟨h1, h2⟩, if_pos (show y < i + 1 by omega), h2]
      · rw [if_neg (fun q => h2 q.2)]
        by_cases h3 : y < i
        · rw [if_pos h3, if_pos (show y < i + 1 by omega)]
        · rw [if_neg h3, if_neg (show ¬ y < i + 1 by omega)]
    · rw [if_neg (fun q : z = x ∧ y = i => h1 q.1), if_neg h1, if_neg h1]
      by_cases h4 : z = rf a 2
      · rw [if_pos h4, if_pos h4]
        by_cases h2 : y = i
        · rw [if_pos ⟨h4, h2⟩, if_pos (show y < i + 1 by omega), h2]
        · rw [if_neg (fun q => h2 q.2)]
          by_cases h3 : y < i
          · rw [if_pos h3, if_pos (show y < i + 1 by omega)]
          · rw [if_neg h3, if_neg (show ¬ y < i + 1 by omega)]
      · rw [if_neg (fun q => h4 q.1), if_neg h4, if_neg h4]
  · show l_X3_swapWithSpare_2 a x (swR σ x (rf a 2) n) (i32 n) = _
    have g0 : (swR σ x (rf a 2) n).1 a 0 = i32 n := h0
    unfold l_X3_swapWithSpare_2
    rw [e_gF, g0, if_pos (i_le (Nat.le_refl _) (by omega))]
end LTR
