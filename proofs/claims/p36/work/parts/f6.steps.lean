/-! the class's lattice: rows as steps, what they make, how large they get -/
section STP
variable {n : Nat}
/-- rows as steps -/
def Ech (n : Nat) (E : Nat → Nat → Int) : Prop := (∀ r, r < n → ∀ j, j < r → E r j = 0) ∧ (∀ r, r < n → 0 ≤ E r r ∧ (E r r = 0 → ∀ j, j < n → E r j = 0)) ∧ ∀ r, n ≤ r → r < 6 → ∀ j, j < n → E r j = 0
theorem Mee.row {c r : Nat} {E D : Nat → Nat → Int} (h : Mee c E D) (h1 : r ≠ c) (h2 : r ≠ 6) : D r = E r := h (fun F => F r = E r) (fun F _ i => by rw [mst_r h1 h2]; exact i) rfl
theorem Mee.zero {c j : Nat} {E D : Nat → Nat → Int} (hc : c < 6) (h : Mee c E D) (h1 : E c j = 0) (h2 : E 6 j = 0) : D c j = 0 ∧ D 6 j = 0 := h (fun F => F c j = 0 ∧ F 6 j = 0) (fun F _ i => ⟨by rw [mst_c]; exact i.2, by rw [mst_6 hc, i.1, i.2, Int.mul_zero]; rfl⟩) ⟨h1, h2⟩
theorem SpE_mst {T : Nat → Prop} {F : Nat → Nat → Int} {c : Nat} (hc : c < 6) : SpE T F (mst F c) 7 := by
  refine SpE.of (fun r hr => ?_) (fun r hr => ?_)
  · by_cases h1 : r = c
    · refine ((Spn.col (C := mst F c) (c := 6) (by omega)).add ((Spn.col (C := mst F c) (c := c) (by omega)).mul (flo (F c c) (F 6 c)))).congr (fun j _ => ?_)
      rw [mst_6 hc, mst_c, h1]
      omega
    · by_cases h2 : r = 6
      · rw [h2, ← mst_c (E := F) (c := c)]
        exact Spn.col (by omega)
      · rw [← mst_r (E := F) h1 h2]
        exact Spn.col hr
  · by_cases h1 : r = c
    · rw [h1, mst_c]
      exact Spn.col (by omega)
    · by_cases h2 : r = 6
      · refine ((Spn.col (C := F) (c := c) (by omega)).sub ((Spn.col (C := F) (c := 6) (by omega)).mul (flo (F c c) (F 6 c)))).congr (fun j _ => ?_)
        rw [h2, mst_6 hc]
      · rw [mst_r h1 h2]
        exact Spn.col hr
theorem Mee.spe {T : Nat → Prop} {c : Nat} {E D : Nat → Nat → Int} (hc : c < 6) (h : Mee c E D) : SpE T E D 7 := h (fun F => SpE T E F 7) (fun _ _ i => i.trans (SpE_mst hc)) SpE.refl
theorem Mee.wi {c j : Nat} {B : Int} {E D : Nat → Nat → Int} (hc : c < 6) (h : Mee c E D) (h1 : Wi B (E c j)) (h2 : Wi B (E 6 j)) (h3 : Wi B (E c c * E 6 j - E 6 c * E c j)) : Wi B (D c j) ∧ Wi B (D 6 j) := by
  have key := h (fun F => Wi B (F c j) ∧ Wi B (F 6 j) ∧ Wi B (F c c * F 6 j - F 6 c * F c j)) (fun F hs i => ?_) ⟨h1, h2, h3⟩
  · exact ⟨key.1, key.2.1⟩
  · obtain ⟨i1, i2, i3⟩ := i
    have hr := flo_rest (x := F c c) hs
    have hB := i2.nonneg
    rw [mst_c, mst_6 hc, mst_6 hc]
    generalize flo (F c c) (F 6 c) = f at hr
    refine ⟨i2, Wi.div hs ?_, ?_⟩
    · have e : F 6 c * (F c j - f * F 6 j) = (F c c - f * F 6 c) * F 6 j - (F c c * F 6 j - F 6 c * F c j) := by grind
      have w : Wi (((F 6 c).natAbs : Int) - 1) (F c c - f * F 6 c) := ⟨by omega, by omega⟩
      rw [e]
      refine ((w.mul i2).sub i3).mono ?_
      rw [Int.sub_mul]
      omega
    · have e : F 6 c * (F c j - f * F 6 j) - (F c c - f * F 6 c) * F 6 j = -(F c c * F 6 j - F 6 c * F c j) := by grind
      rw [e]
      exact i3.neg
theorem abr_r {E : Nat → Nat → Int} {c r : Nat} (h : r ≠ c) : abr E c r = E r := by
  unfold abr
  split
  · rfl
  · exact ngr_r h
theorem abr_c {E : Nat → Nat → Int} {c j : Nat} : abr E c c j = if 0 ≤ E c c then E c j else -E c j := by
  unfold abr
  split
  · rfl
  · exact ngr_c
theorem SpE_abr {T : Nat → Prop} {E : Nat → Nat → Int} {c : Nat} (hc : c < 6) : SpE T E (abr E c) 7 := by
  by_cases h : 0 ≤ E c c
  · have e : abr E c = E := by unfold abr; rw [if_pos h]
    rw [e]
    exact SpE.refl
  · have e : abr E c = ngr E c := by unfold abr; rw [if_neg h]
    rw [e]
    refine SpE.of (fun r hr => ?_) (fun r hr => ?_)
    · by_cases h1 : r = c
      · refine ((Spn.col (C := ngr E c) (c := c) (by omega)).mul (-1)).congr (fun j _ => ?_)
        rw [ngr_c, h1]
        omega
      · rw [← ngr_r (E := E) h1]
        exact Spn.col hr
    · by_cases h1 : r = c
      · refine ((Spn.col (C := E) (c := c) (by omega)).mul (-1)).congr (fun j _ => ?_)
        rw [h1, ngr_c]
        omega
      · rw [ngr_r h1]
        exact Spn.col hr
theorem tks_r {E : Nat → Nat → Int} {r c j : Nat} : tks E r c r j = E r j - flz (E r c) (E c c) * E c j := by
  unfold tks
  rw [if_pos rfl]
theorem tks_q {E : Nat → Nat → Int} {r c q : Nat} (h : q ≠ r) : tks E r c q = E q := if_neg h
theorem SpE_tks {T : Nat → Prop} {E : Nat → Nat → Int} {r c : Nat} (hr : r < c) (hc : c < 6) : SpE T E (tks E r c) 7 := by
  refine SpE.of (fun q hq => ?_) (fun q hq => ?_)
  · by_cases h1 : q = r
    · refine ((Spn.col (C := tks E r c) (c := r) (by omega)).add ((Spn.col (C := tks E r c) (c := c) (by omega)).mul (flz (E r c) (E c c)))).congr (fun j _ => ?_)
      rw [tks_r, tks_q (by omega), h1]
      omega
    · rw [← tks_q (E := E) (c := c) h1]
      exact Spn.col hq
  · by_cases h1 : q = r
    · refine ((Spn.col (C := E) (c := r) (by omega)).sub ((Spn.col (C := E) (c := c) (by omega)).mul (flz (E r c) (E c c)))).congr (fun j _ => ?_)
      rw [h1, tks_r]
    · rw [tks_q h1]
      exact Spn.col hq
theorem flo_le {x y : Int} (hy : 0 < y) : (flo x y).natAbs ≤ x.natAbs := by
  have h := (flo_rest (x := x) (y := y) (by omega)).1 hy
  generalize flo x y = f at h
  by_cases hx : 0 ≤ x
  · have h1 : 0 ≤ f := by
      refine Classical.byContradiction (fun q => ?_)
      have := Int.mul_le_mul_of_nonneg_right (a := f) (b := -1) (c := y) (by omega) (by omega)
      omega
    have h2 := Int.mul_le_mul_of_nonneg_left (a := 1) (b := y) (c := f) (by omega) h1
    omega
  · have h1 : f ≤ 0 := by
      refine Classical.byContradiction (fun q => ?_)
      have := Int.mul_nonneg (a := f) (b := y) (by omega) (by omega)
      omega
    have h2 : x ≤ f := by
      refine Classical.byContradiction (fun q => ?_)
      have h3 := Int.mul_le_mul_of_nonneg_right (a := f) (b := x - 1) (c := y) (by omega) (by omega)
      have h4 := Int.mul_nonneg (a := -x) (b := y - 1) (by omega) (by omega)
      rw [Int.sub_mul, Int.one_mul] at h3
      have e : -x * (y - 1) = x - x * y := by grind
      rw [e] at h4
      omega
    omega
/-- a stage ahead of the meeting at c -/
def PMA (n c : Nat) (E0 E : Nat → Nat → Int) : Prop := Ech n E ∧ (∀ j, j < c → E 6 j = 0) ∧ SpE (fun j => j < n) E0 E 7
theorem PMA.next {c : Nat} {E0 D D' : Nat → Nat → Int} (hn : n ≤ 6) (hc : c < n) (h : PMA n c E0 D) (hm : Mee c D D') (h6 : D' 6 c = 0) (q1 : D 6 c = 0 → D' = D) (q2 : D 6 c ≠ 0 → D' c c ≠ 0) : PMA n (c + 1) E0 (abr D' c) := by
  obtain ⟨⟨a1, a2, a3⟩, b, s⟩ := h
  have hrow : ∀ r, r ≠ c → r ≠ 6 → abr D' c r = D r := fun r r1 r2 => by rw [abr_r r1, hm.row r1 r2]
  have hz : ∀ j, j < c → D' c j = 0 ∧ D' 6 j = 0 := fun j hj => hm.zero (by omega) (a1 c hc j hj) (b j hj)
  refine ⟨⟨fun r hr j hj => ?_, fun r hr => ?_, fun r r1 r2 j hj => ?_⟩, fun j hj => ?_, s.trans ((hm.spe (by omega)).trans (SpE_abr (by omega)))⟩
  · by_cases hrc : r = c
    · subst hrc
      rw [abr_c, (hz j hj).1]
      split <;> rfl
    · rw [hrow r hrc (by omega)]
      exact a1 r hr j hj
  · by_cases hrc : r = c
    · subst hrc
      rw [abr_c]
      refine ⟨by split <;> omega, fun q j hj => ?_⟩
      have hd : D' r r = 0 := by
        split at q
        · exact q
        · omega
      have h0 : D 6 r = 0 := Classical.byContradiction (fun w => q2 w hd)
      rw [abr_c, if_pos (by omega), q1 h0]
      rw [q1 h0] at hd
      exact (a2 r hr).2 hd j hj
    · rw [hrow r hrc (by omega)]
      exact a2 r hr
  · rw [hrow r (by omega) (by omega)]
    exact a3 r r1 r2 j hj
  · rw [abr_r (by omega)]
    by_cases hjc : j = c
    · rw [hjc]; exact h6
    · exact (hz j (by omega)).2
theorem PMA.tidy {r c : Nat} {E0 D : Nat → Nat → Int} (hn : n ≤ 6) (hr : r < c) (hc : c < n) (h : PMA n n E0 D) : PMA n n E0 (tks D r c) := by
  obtain ⟨⟨a1, a2, a3⟩, b, s⟩ := h
  refine ⟨⟨fun q hq j hj => ?_, fun q hq => ?_, fun q q1 q2 j hj => ?_⟩, fun j hj => ?_, s.trans (SpE_tks hr (by omega))⟩
  · by_cases hqr : q = r
    · subst hqr
      rw [tks_r, a1 q hq j hj, a1 c hc j (by omega), Int.mul_zero]
      rfl
    · rw [tks_q hqr]
      exact a1 q hq j hj
  · by_cases hqr : q = r
    · subst hqr
      have e : tks D q c q q = D q q := by rw [tks_r, a1 c hc q hr, Int.mul_zero, Int.sub_zero]
      rw [e]
      refine ⟨(a2 q hq).1, fun z j hj => ?_⟩
      have hz := (a2 q hq).2 z
      rw [tks_r, hz j hj, hz c hc]
      have : flz 0 (D c c) = 0 := by
        unfold flz
        split
        · rfl
        · exact flo_zero
      rw [this, Int.zero_mul]
      rfl
    · rw [tks_q hqr]
      exact a2 q hq
  · rw [tks_q (by omega)]
    exact a3 q q1 q2 j hj
  · rw [tks_q (by omega)]
    exact b j hj
end STP
