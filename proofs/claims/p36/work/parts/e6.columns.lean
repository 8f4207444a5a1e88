/-! the reference's columns: less one another, exchanged, the least sought -/
section COL
variable {σ : Mem}
/-- a row of longs written anew -/
def rwL (σ : Mem) (a : Nat) (f : Nat → Int64) : Mem := (σ.1, fun x y => if x = a then f y else σ.2 x y)
theorem rwL_a {a : Nat} {f : Nat → Int64} {y : Nat} : (rwL σ a f).2 a y = f y := if_pos rfl
theorem rwL_x {a x : Nat} {f : Nat → Int64} (h : x ≠ a) : (rwL σ a f).2 x = σ.2 x := funext (fun _ => if_neg h)
theorem rwL_w {a k : Nat} {f : Nat → Int64} {v : Int64} : wL (rwL σ a f) a k v = rwL σ a (fun y => if y = k then v else f y) := by
  refine Prod.ext rfl ?_
  funext x y
  show (if x = a ∧ y = k then v else if x = a then f y else σ.2 x y) = if x = a then (if y = k then v else f y) else σ.2 x y
  by_cases h1 : x = a
  · rw [if_pos h1, if_pos h1]
    by_cases h2 : y = k
    · rw [if_pos ⟨h1, h2⟩, if_pos h2]
    · rw [if_neg (fun q => h2 q.2), if_neg h2]
  · rw [if_neg (fun q => h1 q.1), if_neg h1, if_neg h1]
theorem rwL_congr {a : Nat} {f g : Nat → Int64} (h : ∀ y, f y = g y) : rwL σ a f = rwL σ a g := by rw [funext h]
theorem rwL_id {a : Nat} {f : Nat → Int64} (h : ∀ y, f y = σ.2 a y) : rwL σ a f = σ := by
  refine Prod.ext rfl ?_
  funext x y
  show (if x = a then f y else σ.2 x y) = σ.2 x y
  by_cases h1 : x = a
  · rw [if_pos h1, h, h1]
  · rw [if_neg h1]
theorem i32_18 : (18 : Int32) = i32 18 := rfl
theorem r_ofColumn {c j : Nat} (hc : c < 20) (hj : j < 18) : f_X11_ofColumn σ (i32 c) (i32 j) = some (σ.2 320 (18 * c + j)) := by
  unfold f_X11_ofColumn
  rw [i32_18, i32_mul, i32_add, e_gL ln_320 (by omega) (by omega)]
def lsF (r : Nat → Int64) (c p : Nat) (t : Int64) (i : Nat) : Nat → Int64 := fun y => if 18 * c ≤ y ∧ y < 18 * c + i then r y - t * r (18 * p + (y - 18 * c)) else r y
theorem r_lessens {c p : Nat} {t : Int64} (hc : c < 20) (hp : p < 20) (hcp : c ≠ p) : f_X11_lessens σ (i32 c) (i32 p) t = some (rwL σ 320 (lsF (σ.2 320) c p t 18)) := by
  unfold f_X11_lessens
  refine loop_at (body := fun (z2 : (Mem × Int32)) => l_X11_lessens_3 (i32 c) (i32 p) t z2.1 z2.2) (fun i => (rwL σ 320 (lsF (σ.2 320) c p t i), i32 i)) 0 18 ?_ (by omega) (fun i _ hi => ?_) ?_
  · refine Prod.ext (rwL_id (fun y => ?_)) rfl
    unfold lsF
    rw [if_neg (by omega)]
  · show l_X11_lessens_3 (i32 c) (i32 p) t (rwL σ 320 (lsF (σ.2 320) c p t i)) (i32 i) = _
    unfold l_X11_lessens_3
    rw [i32_18, if_neg (i_nle hi (by omega)), i32_mul, i32_mul, i32_add, i32_add, e_gL ln_320 (by omega) (by omega), e_gL ln_320 (by omega) (by omega), e_pL ln_320 (by omega) (by omega), rwL_w, rwL_a, rwL_a, i32_1, i32_add]
    refine congrArg (fun τ => some (Sum.inl (τ, i32 (i + 1)))) (rwL_congr (fun y => ?_))
    unfold lsF
    by_cases hy : y = 18 * c + i
    · rw [if_pos hy, hy, if_neg (by omega), if_neg (by omega), if_pos (by omega), show 18 * p + (18 * c + i - 18 * c) = 18 * p + i by omega]
    · rw [if_neg hy]
      by_cases h2 : 18 * c ≤ y ∧ y < 18 * c + i
      · rw [if_pos h2, if_pos (by omega)]
      · rw [if_neg h2, if_neg (by omega)]
  · show l_X11_lessens_3 (i32 c) (i32 p) t (rwL σ 320 (lsF (σ.2 320) c p t 18)) (i32 18) = _
    unfold l_X11_lessens_3
    rw [if_pos (by decide)]
def chF (r : Nat → Int64) (a b : Nat) (i : Nat) : Nat → Int64 := fun y => if 18 * a ≤ y ∧ y < 18 * a + i then r (18 * b + (y - 18 * a)) else if 18 * b ≤ y ∧ y < 18 * b + i then r (18 * a + (y - 18 * b)) else r y
theorem r_changes {a b : Nat} (ha : a < 20) (hb : b < 20) : f_X11_changes σ (i32 a) (i32 b) = some (rwL σ 320 (chF (σ.2 320) a b 18)) := by
  unfold f_X11_changes
  refine loop_at (body := fun (z2 : (Mem × Int32)) => l_X11_changes_2 (i32 a) (i32 b) z2.1 z2.2) (fun i => (rwL σ 320 (chF (σ.2 320) a b i), i32 i)) 0 18 ?_ (by omega) (fun i _ hi => ?_) ?_
  · refine Prod.ext (rwL_id (fun y => ?_)) rfl
    unfold chF
    rw [if_neg (by omega), if_neg (by omega)]
  · show l_X11_changes_2 (i32 a) (i32 b) (rwL σ 320 (chF (σ.2 320) a b i)) (i32 i) = _
    unfold l_X11_changes_2
    have va : chF (σ.2 320) a b i (18 * a + i) = σ.2 320 (18 * a + i) := by
      unfold chF
      rw [if_neg (by omega), if_neg (by omega)]
    have vb : chF (σ.2 320) a b i (18 * b + i) = σ.2 320 (18 * b + i) := by
      unfold chF
      rw [if_neg (by omega), if_neg (by omega)]
    rw [i32_18, if_neg (i_nle hi (by omega)), i32_mul, i32_mul, i32_add, i32_add, e_gL ln_320 (by omega) (by omega), e_gL ln_320 (by omega) (by omega), e_pL ln_320 (by omega) (by omega), rwL_w, e_pL ln_320 (by omega) (by omega), rwL_w, rwL_a, rwL_a, va, vb, i32_1, i32_add]
    refine congrArg (fun τ => some (Sum.inl (τ, i32 (i + 1)))) (rwL_congr (fun y => ?_))
    by_cases hb1 : y = 18 * b + i
    · rw [if_pos hb1]
      unfold chF
      by_cases hab : a = b
      · rw [if_pos (by omega), hb1, hab, show 18 * b + (18 * b + i - 18 * b) = 18 * b + i by omega]
      · rw [if_neg (by omega), if_pos (by omega), hb1, show 18 * a + (18 * b + i - 18 * b) = 18 * a + i by omega]
    · rw [if_neg hb1]
      by_cases ha1 : y = 18 * a + i
      · rw [if_pos ha1]
        unfold chF
        rw [if_pos (by omega), ha1, show 18 * b + (18 * a + i - 18 * a) = 18 * b + i by omega]
      · rw [if_neg ha1]
        unfold chF
        by_cases h2 : 18 * a ≤ y ∧ y < 18 * a + i
        · rw [if_pos h2, if_pos (by omega)]
        · rw [if_neg h2]
          by_cases h3 : 18 * b ≤ y ∧ y < 18 * b + i
          · rw [if_pos h3, if_neg (by omega), if_pos (by omega)]
          · rw [if_neg h3, if_neg (by omega), if_neg (by omega)]
  · show l_X11_changes_2 (i32 a) (i32 b) (rwL σ 320 (chF (σ.2 320) a b 18)) (i32 18) = _
    unfold l_X11_changes_2
    rw [if_pos (by decide)]
/-- the columns, as whole numbers -/
def Cl (σ : Mem) (C : Nat → Nat → Int) (m : Nat) : Prop := ∀ c j, c < m → j < 18 → σ.2 320 (18 * c + j) = oi (C c j)
def swpC (C : Nat → Nat → Int) (a b : Nat) : Nat → Nat → Int := fun c => if c = a then C b else if c = b then C a else C c
def lesC (C : Nat → Nat → Int) (e p : Nat) (q : Int) : Nat → Nat → Int := fun c => if c = e then (fun j => C e j - q * C p j) else C c
theorem Cl.swp {C : Nat → Nat → Int} {m a b : Nat} (h : Cl σ C m) (ha : a < m) (hb : b < m) : Cl (rwL σ 320 (chF (σ.2 320) a b 18)) (swpC C a b) m := by
  intro c j hc hj
  rw [rwL_a]
  unfold chF swpC
  by_cases h1 : c = a
  · rw [if_pos h1, if_pos (by omega), show 18 * b + (18 * c + j - 18 * a) = 18 * b + j by omega]
    exact h b j hb hj
  · rw [if_neg h1, if_neg (by omega)]
    by_cases h2 : c = b
    · rw [if_pos h2, if_pos (by omega), show 18 * a + (18 * c + j - 18 * b) = 18 * a + j by omega]
      exact h a j ha hj
    · rw [if_neg h2, if_neg (by omega)]
      exact h c j hc hj
theorem Cl.les {C : Nat → Nat → Int} {m e p : Nat} {q : Int} (h : Cl σ C m) (he : e < m) (hp : p < m) : Cl (rwL σ 320 (lsF (σ.2 320) e p (oi q) 18)) (lesC C e p q) m := by
  intro c j hc hj
  rw [rwL_a]
  unfold lsF lesC
  by_cases h1 : c = e
  · rw [if_pos h1, if_pos (by omega), h1, show 18 * p + (18 * e + j - 18 * e) = 18 * p + j by omega, h e j he hj, h p j hp hj, oi_mul, oi_sub]
  · rw [if_neg h1, if_neg (by omega)]
    exact h c j hc hj
end COL
