/-! what the reference asks of elements -/
theorem oi_lt {x y : Int} (hx : -2 ^ 63 ≤ x ∧ x < 2 ^ 63) (hy : -2 ^ 63 ≤ y ∧ y < 2 ^ 63) : (oi x < oi y) ↔ x < y := by
  rw [Int64.lt_iff_toInt_lt, oi_toInt hx.1 hx.2, oi_toInt hy.1 hy.2]
theorem oi_le {x y : Int} (hx : -2 ^ 63 ≤ x ∧ x < 2 ^ 63) (hy : -2 ^ 63 ≤ y ∧ y < 2 ^ 63) : (oi x ≤ oi y) ↔ x ≤ y := by
  rw [Int64.le_iff_toInt_le, oi_toInt hx.1 hx.2, oi_toInt hy.1 hy.2]
theorem oi_eq {x y : Int} (hx : -2 ^ 63 ≤ x ∧ x < 2 ^ 63) (hy : -2 ^ 63 ≤ y ∧ y < 2 ^ 63) : (oi x = oi y) ↔ x = y := by
  rw [← Int64.toInt_inj, oi_toInt hx.1 hx.2, oi_toInt hy.1 hy.2]
/-- fits a long -/
abbrev L63 (x : Int) : Prop := -2 ^ 63 ≤ x ∧ x < 2 ^ 63
theorem e_isIn {σ : Mem} {x l u : Int64} : f_X11_isIn σ x l u = some (decide (l ≤ x ∧ x ≤ u)) := by
  unfold f_X11_isIn j_X11_isIn_17
  by_cases h1 : x < l
  · rw [if_pos h1, e_bs, decide_eq_false (fun q => Int64.not_le.mpr h1 q.1)]; rfl
  · rw [if_neg h1]
    by_cases h2 : u < x
    · rw [if_pos h2, e_bs, decide_eq_false (fun q => Int64.not_le.mpr h2 q.2)]; rfl
    · rw [if_neg h2, e_bs, decide_eq_true ⟨Int64.not_lt.mp h1, Int64.not_lt.mp h2⟩]; rfl
/-- a loop that looks whether all are so -/
theorem loop_all {body : Int32 → Option (Int32 ⊕ Bool)} (n : Nat) (p : Nat → Prop) (hp : ∀ k, Decidable (p k)) (hs : ∀ k, k < n → body (i32 k) = some (if p k then Sum.inl (i32 (k + 1)) else Sum.inr false)) (he : body (i32 n) = some (Sum.inr true)) (b : Bool) (hb : b = true ↔ ∀ k, k < n → p k) : loopO body 0 = some b := by
  have key : ∀ d, d ≤ n → (∀ k, k < n - d → p k) → loopO body (i32 (n - d)) = some b := by
    intro d
    induction d with
    | zero =>
      intro _ h
      rw [Nat.sub_zero, loopO_eq, he]
      show some true = some b
      rw [hb.mpr h]
    | succ d ih =>
      intro hd h
      rw [loopO_eq, hs (n - (d + 1)) (by omega)]
      by_cases hq : p (n - (d + 1))
      · rw [if_pos hq]
        show loopO body (i32 (n - (d + 1) + 1)) = some b
        rw [show n - (d + 1) + 1 = n - d by omega]
        refine ih (by omega) (fun k hk => ?_)
        by_cases h1 : k = n - (d + 1)
        · rw [h1]; exact hq
        · exact h k (by omega)
      · rw [if_neg hq]
        show some false = some b
        cases b with
        | false => rfl
        | true => exact absurd (hb.mp rfl (n - (d + 1)) (by omega)) hq
  have := key n (Nat.le_refl n) (fun k hk => by omega)
  rwa [Nat.sub_self] at this
section QS
variable {σ : Mem} {G : GD} {f : SF}
/-- as longs: within 999, 0, alike -/
def isEl (G : GD) (a : Nat → Int) : Bool := decide (∀ k, k < gn G → -999 ≤ oi (a k) ∧ oi (a k) ≤ 999)
theorem p_isElement (h : MG σ G) (hG : GOK G) {s : Nat} (hs : s < 100) : f_X11_isElement (PS σ f) (i32 s) = some (isEl G (f s)) := by
  have hn := hG.2.1
  unfold f_X11_isElement
  refine loop_all (gn G) (fun k => -999 ≤ oi (f s k) ∧ oi (f s k) ≤ 999) (fun k => inferInstance) (fun k hk => ?_) ?_ _ (by unfold isEl; rw [decide_eq_true_eq])
  · show l_X11_isElement_2 _ _ _ = _
    unfold l_X11_isElement_2
    rw [e_n (PS_MG h), e_bs, if_neg (i_nle hk (by omega)), p_of hs (by omega), e_bs, e_isIn, e_bs, i32_1, i32_add]
    by_cases hq : -999 ≤ oi (f s k) ∧ oi (f s k) ≤ 999
    · rw [decide_eq_true hq, if_pos hq]; rfl
    · rw [decide_eq_false hq, if_neg hq]; rfl
  · show l_X11_isElement_2 _ _ _ = _
    unfold l_X11_isElement_2
    rw [e_n (PS_MG h), e_bs, if_pos (i_le (Nat.le_refl _) (by omega))]
def isO (G : GD) (a : Nat → Int) : Bool := decide (∀ k, k < gn G → oi (a k) = 0)
theorem p_isOne (h : MG σ G) (hG : GOK G) {s : Nat} (hs : s < 100) : f_X11_isOne (PS σ f) (i32 s) = some (isO G (f s)) := by
  have hn := hG.2.1
  unfold f_X11_isOne
  refine loop_all (gn G) (fun k => oi (f s k) = 0) (fun k => inferInstance) (fun k hk => ?_) ?_ _ (by unfold isO; rw [decide_eq_true_eq])
  · show l_X11_isOne_2 _ _ _ = _
    unfold l_X11_isOne_2
    rw [e_n (PS_MG h), e_bs, if_neg (i_nle hk (by omega)), p_of hs (by omega), e_bs, i32_1, i32_add]
    split <;> rfl
  · show l_X11_isOne_2 _ _ _ = _
    unfold l_X11_isOne_2
    rw [e_n (PS_MG h), e_bs, if_pos (i_le (Nat.le_refl _) (by omega))]
def areS (G : GD) (a b : Nat → Int) : Bool := decide (∀ k, k < gn G → oi (a k) = oi (b k))
theorem p_areSame (h : MG σ G) (hG : GOK G) {s r : Nat} (hs : s < 100) (hr : r < 100) : f_X11_areSame (PS σ f) (i32 s) (i32 r) = some (areS G (f s) (f r)) := by
  have hn := hG.2.1
  unfold f_X11_areSame
  refine loop_all (gn G) (fun k => oi (f s k) = oi (f r k)) (fun k => inferInstance) (fun k hk => ?_) ?_ _ (by unfold areS; rw [decide_eq_true_eq])
  · show l_X11_areSame_2 _ _ _ _ = _
    unfold l_X11_areSame_2
    rw [e_n (PS_MG h), e_bs, if_neg (i_nle hk (by omega)), p_of hs (by omega), e_bs, p_of hr (by omega), e_bs, i32_1, i32_add]
    split <;> rfl
  · show l_X11_areSame_2 _ _ _ _ = _
    unfold l_X11_areSame_2
    rw [e_n (PS_MG h), e_bs, if_pos (i_le (Nat.le_refl _) (by omega))]
end QS
