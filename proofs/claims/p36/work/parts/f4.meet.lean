/-! the class's lattice: Euclid's way with the spare row, a step taken -/
section MEE
variable {σ : Mem} {a n : Nat}
/-- where a lattice is -/
def LA (a : Nat) : Prop := rf a 1 = a + 1 ∧ rf a 2 = a + 8 ∧ ln (a + 1) = 6 ∧ (∀ r, r < 6 → rf (a + 1) r = a + 2 + r) ∧ ∀ r, r < 7 → ln (a + 2 + r) = 6
theorem LA_135 : LA 135 := by unfold LA; decide +kernel
theorem LA_81 : LA 81 := by unfold LA; decide +kernel
theorem LA_90 : LA 90 := by unfold LA; decide +kernel
/-- its rows, the spare one last, as whole numbers -/
def Mx (σ : Mem) (a n : Nat) (E : Nat → Nat → Int) : Prop := ∀ r j, r < 7 → j < n → σ.2 (a + 2 + r) j = oi (E r j)
def FLa (a : Nat) (σ τ : Mem) : Prop := τ.1 = σ.1 ∧ ∀ x, ¬ (a + 2 ≤ x ∧ x ≤ a + 8) → τ.2 x = σ.2 x
theorem FLa.refl : FLa a σ σ := ⟨rfl, fun _ _ => rfl⟩
theorem FLa.trans {τ υ : Mem} (h : FLa a σ τ) (k : FLa a τ υ) : FLa a σ υ := ⟨k.1.trans h.1, fun x hx => (k.2 x hx).trans (h.2 x hx)⟩
theorem FLa.rw {r : Nat} {f : Nat → Int64} (h : r < 7) : FLa a σ (rwL σ (a + 2 + r) f) := ⟨rfl, fun x hx => rwL_x (by omega)⟩
theorem e_gRL {α : Type} {f : Nat → Option α} (hL : LA a) {r : Nat} (hr : r < 6) : gR (rf a 1) (i32 r) f = f (a + 2 + r) := by
  rw [hL.1, e_gR hL.2.2.1 hr (by omega), hL.2.2.2.1 r hr]
/-- one step of Euclid's way -/
def mst (E : Nat → Nat → Int) (c : Nat) : Nat → Nat → Int := fun r => if r = c then E 6 else if r = 6 then (fun j => E c j - flo (E c c) (E 6 c) * E 6 j) else E r
def Mee (c : Nat) (E D : Nat → Nat → Int) : Prop := ∀ I : (Nat → Nat → Int) → Prop, (∀ F, F 6 c ≠ 0 → I F → I (mst F c)) → I E → I D
theorem mst_c {E : Nat → Nat → Int} {c : Nat} : mst E c c = E 6 := if_pos rfl
theorem mst_6 {E : Nat → Nat → Int} {c j : Nat} (h : c < 6) : mst E c 6 j = E c j - flo (E c c) (E 6 c) * E 6 j := by
  unfold mst
  rw [if_neg (by omega), if_pos rfl]
theorem mst_r {E : Nat → Nat → Int} {c r : Nat} (h1 : r ≠ c) (h2 : r ≠ 6) : mst E c r = E r := by
  unfold mst
  rw [if_neg h1, if_neg h2]
theorem half {x s f : Int} (h1 : 0 < s) (h2 : s < x) (h3 : 0 ≤ x - f * s) (h4 : x - f * s < s) : 2 * (x - f * s) < x := by
  have h5 : 0 < f * s := by omega
  have h6 : 1 ≤ f := by
    refine Classical.byContradiction (fun q => ?_)
    have := Int.mul_nonpos_of_nonpos_of_nonneg (a := f) (b := s) (by omega) (by omega)
    omega
  have h7 := Int.mul_nonneg (a := f - 1) (b := s) (by omega) (by omega)
  rw [Int.sub_mul, Int.one_mul] at h7
  omega
theorem c_meetStep {E : Nat → Nat → Int} {c i : Nat} (hL : LA a) (hn : n ≤ 6) (h0 : σ.1 a 0 = i32 n) (hc : c < n) (hE : Mx σ a n E) (w1 : Wi (2 ^ 62) (E c c)) (w2 : Wi (2 ^ 62) (E 6 c)) (hi : i < 1000) (hs : E 6 c ≠ 0) : ∃ τ, l_X3_meet_2 a (i32 c) σ (i32 i) = some (Sum.inl (τ, i32 (i + 1))) ∧ FLa a σ τ ∧ Mx τ a n (mst E c) := by
  have hl6 := hL.2.2.2.2 6 (by omega)
  have hlc := hL.2.2.2.2 c (by omega)
  have v6 : σ.2 (a + 8) c = oi (E 6 c) := hE 6 c (by omega) hc
  have vc : σ.2 (a + 2 + c) c = oi (E c c) := hE c c (by omega) hc
  have e1 := c_sub (σ := σ) (a := a) (x := a + 2 + c) (p := a + 8) (t := oi (flo (E c c) (E 6 c))) hn h0 hlc hl6 (by omega)
  have f1 : FLa a σ (rwL σ (a + 2 + c) (fun y => if y < n then σ.2 (a + 2 + c) y - oi (flo (E c c) (E 6 c)) * σ.2 (a + 8) y else σ.2 (a + 2 + c) y)) := FLa.rw (by omega)
  have u1 : ∀ y, y < n → (rwL σ (a + 2 + c) (fun y => if y < n then σ.2 (a + 2 + c) y - oi (flo (E c c) (E 6 c)) * σ.2 (a + 8) y else σ.2 (a + 2 + c) y)).2 (a + 2 + c) y = oi (E c y - flo (E c c) (E 6 c) * E 6 y) := fun y hy => by
    refine rwL_a.trans ?_
    show (if y < n then _ else _) = _
    rw [if_pos hy, hE c y (by omega) hy, show σ.2 (a + 8) y = oi (E 6 y) from hE 6 y (by omega) hy, oi_mul, oi_sub]
  have u2 : ∀ x, x ≠ a + 2 + c → (rwL σ (a + 2 + c) (fun y => if y < n then σ.2 (a + 2 + c) y - oi (flo (E c c) (E 6 c)) * σ.2 (a + 8) y else σ.2 (a + 2 + c) y)).2 x = σ.2 x := fun x hx => rwL_x hx
  generalize rwL σ (a + 2 + c) (fun y => if y < n then σ.2 (a + 2 + c) y - oi (flo (E c c) (E 6 c)) * σ.2 (a + 8) y else σ.2 (a + 2 + c) y) = τ1 at e1 f1 u1 u2
  have g0 : τ1.1 a 0 = i32 n := by rw [f1.1]; exact h0
  have e2 := c_swap (σ := τ1) (a := a) (x := a + 2 + c) hn g0 hlc (by rw [hL.2.1]; exact hl6) (by rw [hL.2.1]; omega)
  refine ⟨swR τ1 (a + 2 + c) (rf a 2) n, ?_, f1.trans ⟨rfl, fun x hx => ?_⟩, fun r j hr hj => ?_⟩
  · unfold l_X3_meet_2
    rw [show (1000 : Int32) = i32 1000 from rfl, if_neg (i_nle hi (by omega)), hL.2.1, e_gL hl6 (by omega) (by omega), v6, if_neg (fun q => hs ((oi_is0 w2).mp q)), e_gRL hL (by omega), e_gRL hL (by omega), e_gL hlc (by omega) (by omega), vc, e_gL hl6 (by omega) (by omega), v6, c_floorDiv w1 w2 hs, e_bs, e1, e_bs, e_gRL hL (by omega), e2, e_bs, i32_1, i32_add]
    rw [hL.2.1]
  · rw [hL.2.1]
    show (fun y => if x = a + 2 + c then _ else if x = a + 8 then _ else τ1.2 x y) = τ1.2 x
    funext y
    rw [if_neg (by omega), if_neg (by omega)]
  · rw [hL.2.1]
    show (if a + 2 + r = a + 2 + c then (if j < n then τ1.2 (a + 8) j else τ1.2 (a + 2 + c) j) else if a + 2 + r = a + 8 then (if j < n then τ1.2 (a + 2 + c) j else τ1.2 (a + 8) j) else τ1.2 (a + 2 + r) j) = _
    by_cases h1 : r = c
    · rw [if_pos (by omega), if_pos hj, u2 _ (by omega), h1, mst_c]
      exact hE 6 j (by omega) hj
    · rw [if_neg (by omega)]
      by_cases h2 : r = 6
      · rw [if_pos (by omega), if_pos hj, u1 j hj, h2, mst_6 (by omega)]
      · rw [if_neg (by omega), u2 _ (by omega), mst_r h1 h2]
        exact hE r j hr hj
theorem c_meet {E : Nat → Nat → Int} {c : Nat} (hL : LA a) (hn : n ≤ 6) (h0 : σ.1 a 0 = i32 n) (hc : c < n) (hE : Mx σ a n E) (w1 : Wi (2 ^ 62) (E c c)) (w2 : Wi (2 ^ 62) (E 6 c)) : ∃ τ D, f_X3_meet σ a (i32 c) = some τ ∧ FLa a σ τ ∧ Mx τ a n D ∧ Mee c E D ∧ D 6 c = 0 ∧ (E 6 c = 0 → D = E) ∧ (E 6 c ≠ 0 → D c c ≠ 0) ∧ Wi (2 ^ 62) (D c c) := by
  unfold f_X3_meet
  have hl := loop_inv (body := fun (z2 : (Mem × Int32)) => l_X3_meet_2 a (i32 c) z2.1 z2.2) (fun k z => ∃ i τ D q, z = (τ, i32 i) ∧ k = (D 6 c).natAbs ∧ FLa a σ τ ∧ Mx τ a n D ∧ Mee c E D ∧ Wi (2 ^ 62) (D c c) ∧ Wi (2 ^ 62) (D 6 c) ∧ (D = E ∨ (E 6 c ≠ 0 ∧ D c c ≠ 0)) ∧ ((i + 2 * q ≤ 126 ∧ (D 6 c).natAbs < 2 ^ q) ∨ (i + 2 * q ≤ 127 ∧ (D c c).natAbs < 2 ^ q ∧ D c c ≠ 0 ∧ (0 < D c c → 0 ≤ D 6 c ∧ D 6 c < D c c) ∧ (D c c < 0 → D c c < D 6 c ∧ D 6 c ≤ 0)))) (fun τ => ∃ D, FLa a σ τ ∧ Mx τ a n D ∧ Mee c E D ∧ D 6 c = 0 ∧ (E 6 c = 0 → D = E) ∧ (E 6 c ≠ 0 → D c c ≠ 0) ∧ Wi (2 ^ 62) (D c c)) ?_ (E 6 c).natAbs (σ, 0) ⟨0, σ, E, 63, rfl, rfl, FLa.refl, hE, fun _ _ h => h, w1, w2, Or.inl rfl, Or.inl ⟨by omega, by have := w2.1; have := w2.2; omega⟩⟩
  · obtain ⟨τ, e, D, h1, h2, h3, h4, h5, h6, h7⟩ := hl
    exact ⟨τ, D, e, h1, h2, h3, h4, h5, h6, h7⟩
  · rintro k z ⟨i, τ, D, q, rfl, rfl, fr, hD, hm, v1, v2, hor, hph⟩
    have g0 : τ.1 a 0 = i32 n := by rw [fr.1]; exact h0
    have hi : i < 1000 := by rcases hph with q | q <;> omega
    by_cases hs : D 6 c = 0
    · right
      refine ⟨τ, ?_, D, fr, hD, hm, hs, fun q => ?_, fun q => ?_, v1⟩
      · show l_X3_meet_2 a (i32 c) τ (i32 i) = _
        unfold l_X3_meet_2
        rw [show (1000 : Int32) = i32 1000 from rfl, if_neg (i_nle hi (by omega)), hL.2.1, e_gL (hL.2.2.2.2 6 (by omega)) (by omega) (by omega), show τ.2 (a + 8) c = oi (D 6 c) from hD 6 c (by omega) hc, if_pos ((oi_is0 v2).mpr hs)]
      · rcases hor with r | r
        · exact r
        · exact absurd q r.1
      · rcases hor with r | r
        · rw [r] at hs; exact absurd hs q
        · exact r.2
    · left
      obtain ⟨τ2, e2, f2, m2⟩ := c_meetStep hL hn g0 hc hD v1 v2 hi hs
      have hrest := flo_rest (x := D c c) hs
      have d6 : mst D c 6 c = D c c - flo (D c c) (D 6 c) * D 6 c := mst_6 (by omega)
      have dc : mst D c c c = D 6 c := by rw [mst_c]
      have hlt : (mst D c 6 c).natAbs < (D 6 c).natAbs := by rw [d6]; omega
      have x1 := v2.1
      have x2 := v2.2
      refine ⟨(τ2, i32 (i + 1)), (mst D c 6 c).natAbs, hlt, e2, ?_⟩
      have base : ∀ q', ((i + 1 + 2 * q' ≤ 126 ∧ (mst D c 6 c).natAbs < 2 ^ q') ∨ (i + 1 + 2 * q' ≤ 127 ∧ (mst D c c c).natAbs < 2 ^ q' ∧ mst D c c c ≠ 0 ∧ (0 < mst D c c c → 0 ≤ mst D c 6 c ∧ mst D c 6 c < mst D c c c) ∧ (mst D c c c < 0 → mst D c c c < mst D c 6 c ∧ mst D c 6 c ≤ 0))) → ∃ i' τ' D' q, (τ2, i32 (i + 1)) = (τ', i32 i') ∧ (mst D c 6 c).natAbs = (D' 6 c).natAbs ∧ FLa a σ τ' ∧ Mx τ' a n D' ∧ Mee c E D' ∧ Wi (2 ^ 62) (D' c c) ∧ Wi (2 ^ 62) (D' 6 c) ∧ (D' = E ∨ (E 6 c ≠ 0 ∧ D' c c ≠ 0)) ∧ ((i' + 2 * q ≤ 126 ∧ (D' 6 c).natAbs < 2 ^ q) ∨ (i' + 2 * q ≤ 127 ∧ (D' c c).natAbs < 2 ^ q ∧ D' c c ≠ 0 ∧ (0 < D' c c → 0 ≤ D' 6 c ∧ D' 6 c < D' c c) ∧ (D' c c < 0 → D' c c < D' 6 c ∧ D' 6 c ≤ 0))) := fun q' hq' => by
        refine ⟨i + 1, τ2, mst D c, q', rfl, rfl, fr.trans f2, m2, fun I i1 i2 => i1 D hs (hm I i1 i2), by rw [dc]; exact v2, ⟨by omega, by omega⟩, Or.inr ⟨?_, by rw [dc]; exact hs⟩, hq'⟩
        rcases hor with r | r
        · rw [r] at hs; exact hs
        · exact r.1
      rcases hph with ⟨p1, p2⟩ | ⟨p1, p2, p3, p4, p5⟩
      · refine base q (Or.inr ⟨by omega, by rw [dc]; exact p2, by rw [dc]; exact hs, fun h => ?_, fun h => ?_⟩)
        · rw [dc] at h ⊢
          rw [d6]
          exact hrest.1 h
        · rw [dc] at h ⊢
          rw [d6]
          exact hrest.2 h
      · have hq1 : ∃ q', q = q' + 1 := by
          cases q with
          | zero => exact absurd p2 (by rw [Nat.pow_zero]; omega)
          | succ q' => exact ⟨q', rfl⟩
        obtain ⟨q', rfl⟩ := hq1
        refine base q' (Or.inl ⟨by omega, ?_⟩)
        rw [Nat.pow_succ] at p2
        rw [d6]
        by_cases hpos : 0 < D c c
        · obtain ⟨r1, r2⟩ := p4 hpos
          obtain ⟨s1, s2⟩ := hrest.1 (by omega)
          have := half (x := D c c) (s := D 6 c) (f := flo (D c c) (D 6 c)) (by omega) (by omega) s1 s2
          omega
        · obtain ⟨r1, r2⟩ := p5 (by omega)
          obtain ⟨s1, s2⟩ := hrest.2 (by omega)
          have e3 : -(D c c) - flo (D c c) (D 6 c) * -(D 6 c) = -(D c c - flo (D c c) (D 6 c) * D 6 c) := by grind
          have := half (x := -(D c c)) (s := -(D 6 c)) (f := flo (D c c) (D 6 c)) (by omega) (by omega) (by omega) (by omega)
          omega
end MEE
