/-! collecting: what one exchange leaves as it is -/
section CO
variable {G : GD}
theorem two_one : two 1 = 0 := rfl
theorem addL_more (hG : GOK G) {v : Nat → Int} {i j m : Nat} (hj : j < gn G) (hv : ∀ q, j < q → v q = 0) :
    addL G (fun k => v k + if k = j then 1 else 0) i 1 m = addL G v i 1 m + tI G j i m + sm (fun p => DD G m p i j * v p) (gn G) := by
  have ed : tI G j i m = sm (fun y => if j = y then tI G j i m else 0) (gn G) := (sm_delta (g := fun _ => tI G j i m) hj).symm
  unfold addL
  rw [ed, sm_add, sm_add]
  refine sm_congr (fun p hp => ?_)
  rw [two_one]
  have inner : sm (fun q => if p < q then DD G m p i q * (v p + if p = j then 1 else 0) * (v q + if q = j then 1 else 0) * 1 else 0) (gn G) = sm (fun q => if p < q then DD G m p i q * v p * v q * 1 else 0) (gn G) + (if p < j then DD G m p i j * v p else 0) := by
    have ed2 : (if p < j then DD G m p i j * v p else 0) = sm (fun q => if j = q then (if p < j then DD G m p i j * v p else 0) else 0) (gn G) := (sm_delta (g := fun _ => if p < j then DD G m p i j * v p else 0) hj).symm
    rw [ed2, sm_add]
    refine sm_congr (fun q hq => ?_)
    by_cases h1 : p < q
    · rw [if_pos h1, if_pos h1]
      by_cases h2 : j = q
      · subst h2
        rw [if_pos rfl, if_pos rfl, if_pos h1, if_neg (show ¬ p = j by omega), Int.add_zero, Int.mul_one, Int.mul_one, Int.mul_add, Int.mul_one]
      · rw [if_neg h2, if_neg (show ¬ q = j by omega), Int.add_zero, Int.add_zero]
        by_cases h3 : p = j
        · subst h3
          rw [hv q h1]; simp
        · rw [if_neg h3, Int.add_zero]
    · rw [if_neg h1, if_neg h1]
      by_cases h2 : j = q
      · rw [if_pos h2, if_neg (by omega)]; rfl
      · rw [if_neg h2]; rfl
  rw [inner]
  dsimp only
  by_cases h1 : p = j
  · subst h1
    rw [if_pos rfl, if_pos rfl, if_neg (Nat.lt_irrefl p), two_add, two_one]
    simp only [Int.mul_add, Int.mul_one, Int.mul_zero, Int.add_zero, Int.zero_add]
    omega
  · rw [if_neg h1, if_neg (show ¬ j = p by omega), Int.add_zero]
    by_cases h2 : p < j
    · rw [if_pos h2]; omega
    · rw [if_neg h2, hv p (by omega)]; simp
theorem addL_after (hG : GOK G) {v : Nat → Int} {i j m : Nat} (hi : i < j) (hj : j < gn G) (hv : ∀ q, j < q → v q = 0) :
    addL G (TL G v i 1) j 1 m = sm (fun p => DD G m p i j * v p) (gn G) := by
  have hlow : ∀ q, j < q → gw G q ≤ 1 → TL G v i 1 q = 0 := fun q hq hw => by
    rw [TL_eq hG (by omega), hv q hq, if_neg (by omega), addL_low hG (by omega), sm_zero]
    · rfl
    · intro p hp
      by_cases h : tI G p i q = 0
      · rw [h]; simp
      · have h1 := tI_ne hG h
        have w1 := (hG.2.2.1 i (by omega)).1
        have w2 := (hG.2.2.1 p (by omega)).1
        omega
  have e : ∀ p, p < gn G → (tI G p j m * TL G v i 1 p * 1 + (DD G m p j j * TL G v i 1 p * two 1 + DD G m p j p * 1 * two (TL G v i 1 p) + sm (fun q => if p < q then DD G m p j q * TL G v i 1 p * TL G v i 1 q * 1 else 0) (gn G))) = sm (fun q => tI G q i p * tI G p j m * v q) (gn G) := by
    intro p hp
    have d0 : ∀ q, DD G m p j q * TL G v i 1 p = 0 := fun q => by
      by_cases h : DD G m p j q = 0
      · rw [h, Int.zero_mul]
      · have h2 : j < p ∧ gw G j = 1 ∧ gw G p = 1 ∧ gw G q = 1 ∧ gw G m = 3 ∧ p < gn G := Classical.byContradiction (fun z => h (DD_0 hG z))
        rw [hlow p h2.1 (by omega), Int.mul_zero]
    have d1 : DD G m p j p * 1 * two (TL G v i 1 p) = 0 := by
      by_cases h : DD G m p j p = 0
      · rw [h]; simp
      · have h2 : j < p ∧ gw G j = 1 ∧ gw G p = 1 ∧ gw G p = 1 ∧ gw G m = 3 ∧ p < gn G := Classical.byContradiction (fun z => h (DD_0 hG z))
        rw [hlow p h2.1 (by omega)]; simp [two]
    rw [d0, d1, sm_zero (fun q _ => by rw [d0]; split <;> simp)]
    by_cases h : tI G p j m = 0
    · rw [h, sm_zero (fun q _ => by simp)]; simp
    · have h1 := tI_ne hG h
      have w4 := (hG.2.2.1 m (by omega)).2
      have w1 := (hG.2.2.1 j hj).1
      rw [TL_eq hG (by omega), hv p h1.1, if_neg (by omega), addL_low hG (by omega)]
      simp only [Int.zero_add, Int.mul_one, Int.mul_zero, Int.add_zero, Int.zero_mul]
      rw [sm_mul]
      refine sm_congr (fun q _ => ?_)
      simp only [Int.mul_assoc, Int.mul_comm, Int.mul_left_comm]
  unfold addL
  rw [sm_congr e, sm_swap]
  refine sm_congr (fun q _ => ?_)
  unfold DD
  rw [sm_mulr]
theorem TL_swap (hG : GOK G) {v : Nat → Int} {i j : Nat} (hi : i < j) (hj : j < gn G) (hv : ∀ q, j < q → v q = 0) (m : Nat) :
    TL G (fun k => v k + if k = j then 1 else 0) i 1 m = TL G (TL G v i 1) j 1 m + tI G j i m := by
  rw [TL_eq hG (by omega), TL_eq hG hj, TL_eq hG (by omega) (v := v), addL_more hG hj hv, addL_after hG hi hj hv]
  omega
theorem TL_heavy {v : Nat → Int} {i m : Nat} {y : Int} (h : gw G i ≠ 1) : TL G v i y m = v m + if m = i then y else 0 := by
  unfold TL; rw [if_neg h, Int.add_zero]
theorem TL_top (hG : GOK G) {v : Nat → Int} {i m : Nat} {y : Int} (hi : i < gn G) (hv : ∀ q, i < q → v q = 0) : TL G v i y m = v m + if m = i then y else 0 := by
  rw [TL_eq hG hi]
  have : addL G v i y m = 0 := sm_zero (fun p _ => by
    by_cases h : i < p
    · rw [hv p h]; simp [two]
      exact sm_zero (fun q _ => rfl)
    · have d : ∀ q, DD G m p i q = 0 := fun q => DD_0 hG (by omega)
      have t : tI G p i m = 0 := Classical.byContradiction (fun z => by have := tI_ne hG z; omega)
      rw [t, d, d, sm_zero (fun q _ => by rw [d]; split <;> simp)]; simp)
  rw [this, Int.add_zero]
end CO

