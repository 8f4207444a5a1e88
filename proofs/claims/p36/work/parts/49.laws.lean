/-! the laws of the group, where the tails keep Jacobi's law: all below the number of letters -/
theorem mulU_congr {G : GD} {a a' b b' : Nat → Int} (ha : ∀ i, i < gn G → a i = a' i) (hb : ∀ i, i < gn G → b i = b' i) : ∀ k, k ≤ gn G → ∀ m, m < gn G → mulU G a b k m = mulU G a' b' k m := by
  intro k
  induction k with
  | zero => intro _ m hm; exact ha m hm
  | succ k ih =>
    intro hk m hm
    show TL G (mulU G a b k) k (b k) m = TL G (mulU G a' b' k) k (b' k) m
    have e := ih (by omega)
    rw [hb k (by omega)]
    unfold TL
    rw [e m hm]
    congr 1
    split
    · refine sm_congr (fun j hj => ?_)
      rw [e j hj]
      by_cases h1 : k < j ∧ gw G j = 1
      · have e2 : passOne G (mulU G a b k) j k (b' k) m = passOne G (mulU G a' b' k) j k (b' k) m := by
          unfold passOne behind
          rw [e j hj]
          congr 1
          refine sm_congr (fun z hz => ?_)
          congr 2
          refine sm_congr (fun q hq => ?_)
          rw [e q hq]
        rw [e2]
      · rw [if_neg h1, if_neg h1]
    · rfl
theorem mul_congr {G : GD} {a a' b b' : Nat → Int} (ha : ∀ i, i < gn G → a i = a' i) (hb : ∀ i, i < gn G → b i = b' i) {m : Nat} (hm : m < gn G) : mul G a b m = mul G a' b' m := mulU_congr ha hb _ (Nat.le_refl _) m hm
theorem inv_beyond {G : GD} {a : Nat → Int} {m : Nat} : ∀ k, k ≤ m → invU G a k m = 0 := by
  intro k
  induction k with
  | zero => intro _; rfl
  | succ k ih =>
    intro hk
    show uV _ _ _ m = 0
    unfold uV
    rw [if_neg (by omega)]
    exact ih (by omega)
theorem invU_keep {G : GD} {a : Nat → Int} {m : Nat} : ∀ d k, m < k → invU G a (k + d) m = invU G a k m := by
  intro d
  induction d with
  | zero => intro k _; rfl
  | succ d ih =>
    intro k hk
    show uV (invU G a (k + d)) (k + d) _ m = _
    unfold uV
    rw [if_neg (by omega)]
    exact ih k hk
section GL
variable {G : GD}
/-- equal as far as the group goes -/
def EqG (G : GD) (a b : Nat → Int) : Prop := ∀ m, m < gn G → a m = b m
theorem EqG.refl {a : Nat → Int} : EqG G a a := fun _ _ => rfl
theorem EqG.symm {a b : Nat → Int} (h : EqG G a b) : EqG G b a := fun m hm => (h m hm).symm
theorem EqG.trans {a b c : Nat → Int} (h : EqG G a b) (k : EqG G b c) : EqG G a c := fun m hm => (h m hm).trans (k m hm)
theorem EqG.times {a a' b b' : Nat → Int} (h : EqG G a a') (k : EqG G b b') : EqG G (mul G a b) (mul G a' b') := fun m hm => mul_congr h k hm
theorem tI_low (hG : GOK G) {j i m : Nat} (h : ¬ (i < j ∧ j < m)) : tI G j i m = 0 := Classical.byContradiction (fun z => by have := tI_ne hG z; omega)
theorem DD_low (hG : GOK G) {m j i q : Nat} (h : m ≤ i ∨ m ≤ j ∨ m ≤ q) : DD G m j i q = 0 := by
  unfold DD
  refine sm_zero (fun k _ => ?_)
  by_cases h1 : tI G k q m = 0
  · rw [h1, Int.mul_zero]
  · have a1 := tI_ne hG h1
    rw [tI_low hG (by omega), Int.zero_mul]
/-- the place m of a product hangs on what lies below m, and adds what lies at m -/
theorem mul_below (hG : GOK G) {a x x' : Nat → Int} {m : Nat} (hm : m < gn G) (h : ∀ i, i < m → x i = x' i) : mul G a x m - x m = mul G a x' m - x' m := by
  rw [mul_eq hG hm, mul_eq hG hm]
  have e1 : pT G m a x = pT G m a x' := sm_congr (fun i _ => sm_congr (fun j _ => by
    by_cases hi : i < m
    · rw [h i hi]
    · rw [tI_low hG (by omega)]; simp))
  have e2 : pU G m a x = pU G m a x' := sm_congr (fun i _ => sm_congr (fun j _ => by
    by_cases hi : i < m
    · rw [h i hi]
    · rw [DD_low hG (by omega)]; simp))
  have e3 : pV G m a x = pV G m a x' := sm_congr (fun i _ => sm_congr (fun j _ => by
    by_cases hi : i < m
    · rw [h i hi]
    · rw [DD_low hG (by omega)]; simp))
  have e4 : pW G m a x = pW G m a x' := sm_congr (fun i _ => sm_congr (fun j _ => sm_congr (fun q _ => by
    by_cases hi : i < m
    · rw [h i hi]
    · rw [DD_low hG (by omega)]; simp)))
  have e5 : pX G m a x = pX G m a x' := sm_congr (fun i _ => sm_congr (fun p _ => by
    by_cases hi : p < i
    · rw [if_pos hi, if_pos hi]
      refine sm_congr (fun j _ => ?_)
      by_cases hi2 : i < m
      · rw [h i hi2, h p (by omega)]
      · rw [DD_low hG (by omega)]; simp
    · rw [if_neg hi, if_neg hi]))
  omega
def O : Nat → Int := fun _ => 0
theorem mul_O (hG : GOK G) {a : Nat → Int} : EqG G (mul G a O) a := fun m hm => by
  rw [mul_eq hG hm]
  have e1 : pT G m a O = 0 := sm_zero (fun i _ => sm_zero (fun j _ => by simp [O]))
  have e2 : pU G m a O = 0 := sm_zero (fun i _ => sm_zero (fun j _ => by simp [O, two]))
  have e3 : pV G m a O = 0 := sm_zero (fun i _ => sm_zero (fun j _ => by simp [O]))
  have e4 : pW G m a O = 0 := sm_zero (fun i _ => sm_zero (fun j _ => sm_zero (fun q _ => by simp [O])))
  have e5 : pX G m a O = 0 := sm_zero (fun i _ => sm_zero (fun p _ => by
    split
    · exact sm_zero (fun j _ => by simp [O])
    · rfl))
  have e6 : O m = 0 := rfl
  omega
theorem O_mul (hG : GOK G) {b : Nat → Int} : EqG G (mul G O b) b := fun m hm => by
  rw [mul_eq hG hm]
  have e1 : pT G m O b = 0 := sm_zero (fun i _ => sm_zero (fun j _ => by simp [O]))
  have e2 : pU G m O b = 0 := sm_zero (fun i _ => sm_zero (fun j _ => by simp [O]))
  have e3 : pV G m O b = 0 := sm_zero (fun i _ => sm_zero (fun j _ => by simp [O, two]))
  have e4 : pW G m O b = 0 := sm_zero (fun i _ => sm_zero (fun j _ => sm_zero (fun q _ => by simp [O])))
  have e5 : pX G m O b = 0 := sm_zero (fun i _ => sm_zero (fun p _ => by
    split
    · exact sm_zero (fun j _ => by simp [O])
    · rfl))
  have e6 : O m = 0 := rfl
  omega
theorem mul_inv (hG : GOK G) {a : Nat → Int} : EqG G (mul G a (inv G a)) O := fun m hm => by
  have h0 : inv G a m = -(mul G a (invU G a m) m) := by
    have h1 := invU_keep (G := G) (a := a) (m := m) (gn G - (m + 1)) (m + 1) (Nat.lt_succ_self m)
    rw [show m + 1 + (gn G - (m + 1)) = gn G from by omega] at h1
    show invU G a (gn G) m = _
    rw [h1]
    show uV (invU G a m) m _ m = _
    unfold uV
    rw [if_pos rfl]
  have h2 : invU G a m m = 0 := inv_beyond m (Nat.le_refl m)
  have h3 := mul_below hG (a := a) (x := inv G a) (x' := invU G a m) hm (fun i hi => by
    have h1 := invU_keep (G := G) (a := a) (m := i) (gn G - (i + 1)) (i + 1) (Nat.lt_succ_self i)
    have h4 := invU_keep (G := G) (a := a) (m := i) (m - (i + 1)) (i + 1) (Nat.lt_succ_self i)
    rw [show i + 1 + (gn G - (i + 1)) = gn G from by omega] at h1
    rw [show i + 1 + (m - (i + 1)) = m from by omega] at h4
    exact h1.trans h4.symm)
  show _ = 0
  omega
section JG
theorem massoc (hG : GOK G) (hJ : Jac G) {a b c : Nat → Int} : EqG G (mul G (mul G a b) c) (mul G a (mul G b c)) := fun m hm => mul_assoc hG hJ a b c m hm
theorem inv_mul (hG : GOK G) (hJ : Jac G) {a : Nat → Int} : EqG G (mul G (inv G a) a) O := by
  have h1 : EqG G (mul G (mul G (inv G a) a) (mul G (inv G a) (inv G (inv G a)))) (mul G (inv G a) a) := (EqG.refl.times (mul_inv hG)).trans (mul_O hG)
  refine h1.symm.trans ?_
  refine (massoc hG hJ).trans ?_
  refine (EqG.refl.times ((massoc hG hJ).symm.trans ((mul_inv hG).times EqG.refl))).trans ?_
  exact (EqG.refl.times (O_mul hG)).trans (mul_inv hG)
end JG
theorem EqG.invs (hG : GOK G) {a b : Nat → Int} (h : EqG G a b) : EqG G (inv G a) (inv G b) := by
  have key : ∀ m, m ≤ gn G → ∀ i, i < m → inv G a i = inv G b i := by
    intro m
    induction m with
    | zero => intro _ i hi; omega
    | succ m ih =>
      intro hm i hi
      by_cases h1 : i < m
      · exact ih (by omega) i h1
      · have hi2 : i = m := by omega
        subst hi2
        have h2 := mul_inv hG (a := a) i (by omega)
        have h3 := mul_inv hG (a := b) i (by omega)
        have h4 := mul_below hG (a := b) (x := inv G a) (x' := inv G b) (show i < gn G by omega) (fun k hk => ih (by omega) k hk)
        have h5 : mul G a (inv G a) i = mul G b (inv G a) i := mul_congr h (fun _ _ => rfl) (by omega)
        omega
  exact fun m hm => key (m + 1) hm m (Nat.lt_succ_self m)
end GL

