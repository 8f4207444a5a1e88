/-! bounds of a lattice's rows, reckoned ahead -/
section BND
variable {σ : Mem} {a n : Nat}
/-- bounds of seven rows of seven -/
def bg (l : List Nat) (r j : Nat) : Nat := l.getD (7 * r + j) 0
def bmk (f : Nat → Nat → Nat) : List Nat := (List.range 49).map (fun p => f (p / 7) (p % 7))
theorem bg_bmk {f : Nat → Nat → Nat} {r j : Nat} (hr : r < 7) (hj : j < 7) : bg (bmk f) r j = f r j := by
  unfold bg bmk
  rw [List.getD_eq_getElem?_getD, List.getElem?_map, List.getElem?_range (by omega)]
  show f ((7 * r + j) / 7) ((7 * r + j) % 7) = f r j
  rw [show (7 * r + j) / 7 = r by omega, show (7 * r + j) % 7 = j by omega]
def BS (n : Nat) (l : List Nat) (E : Nat → Nat → Int) : Prop := ∀ r j, r < 7 → j < n → Wi (bg l r j : Int) (E r j)
/-- bounds behind a meeting -/
def bM (l : List Nat) (c : Nat) : List Nat := if bg l 6 c = 0 then l else bmk (fun r j => if r = c then (if j < c then 0 else if j = c then max (bg l c c) (bg l 6 c) else max (max (bg l c j) (bg l 6 j)) (bg l c c * bg l 6 j + bg l 6 c * bg l c j)) else if r = 6 then (if j ≤ c then 0 else max (max (bg l c j) (bg l 6 j)) (bg l c c * bg l 6 j + bg l 6 c * bg l c j)) else bg l r j)
/-- bounds behind a step taken -/
def bT (l : List Nat) (r c : Nat) : List Nat := if bg l r c = 0 then l else bmk (fun q j => if q = r then (if j < c then bg l r j else if j = c then max (bg l r c) (bg l c c) else bg l r j + bg l r c * bg l c j) else bg l q j)
def stB (o : Nat × Nat) (l : List Nat) : List Nat := if o.1 = 6 then bM l o.2 else bT l o.1 o.2
def ckB (o : Nat × Nat) (l : List Nat) : Bool := decide (bg l o.1 o.2 ≤ 2 ^ 62) && decide (bg l o.2 o.2 ≤ 2 ^ 62)
def runB : List (Nat × Nat) → List Nat → Option (List Nat)
  | [], l => some l
  | o :: os, l => if ckB o l = true then runB os (stB o l) else none
theorem runB_go {o : Nat × Nat} {os : List (Nat × Nat)} {l L : List Nat} (h : runB (o :: os) l = some L) : bg l o.1 o.2 ≤ 2 ^ 62 ∧ bg l o.2 o.2 ≤ 2 ^ 62 ∧ runB os (stB o l) = some L := by
  unfold runB at h
  by_cases c : ckB o l = true
  · rw [if_pos c] at h
    unfold ckB at c
    rw [Bool.and_eq_true, decide_eq_true_eq, decide_eq_true_eq] at c
    exact ⟨c.1, c.2, h⟩
  · rw [if_neg c] at h
    cases h
def opM (n c : Nat) : List (Nat × Nat) := (List.range' c (n - c)).map (fun x => (6, x))
def opR (n r c : Nat) : List (Nat × Nat) := (List.range' c (n - c)).map (fun x => (r, x))
def opL (n : Nat) : Nat → List (Nat × Nat)
  | 0 => []
  | r + 1 => opR n r (r + 1) ++ opL n r
def opA (n : Nat) : List (Nat × Nat) := opM n 0 ++ opL n n
theorem rg_go {n c : Nat} (h : c < n) : List.range' c (n - c) = c :: List.range' (c + 1) (n - (c + 1)) := by
  rw [show n - c = n - (c + 1) + 1 by omega, List.range'_succ]
theorem rg_end {n : Nat} : List.range' n (n - n) = [] := by rw [Nat.sub_self]; rfl
theorem BS.meet {c : Nat} {l : List Nat} {D D' : Nat → Nat → Int} {E0 : Nat → Nat → Int} (hn : n ≤ 6) (hc : c < n) (h : BS n l D) (hA : PMA n c E0 D) (hm : Mee c D D') (h6 : D' 6 c = 0) (q1 : D 6 c = 0 → D' = D) : BS n (bM l c) (abr D' c) := by
  intro r j hr hj
  have key : Wi (bg (bM l c) r j : Int) (D' r j) := by
    unfold bM
    by_cases hz : bg l 6 c = 0
    · rw [if_pos hz]
      have h0 := h 6 c (by omega) hc
      rw [hz] at h0
      have e0 : D 6 c = 0 := by have := h0.1; have := h0.2; omega
      rw [q1 e0]
      exact h r j hr hj
    · rw [if_neg hz, bg_bmk hr (by omega)]
      have w1 := h c j (by omega) hj
      have w2 := h 6 j (by omega) hj
      have w3 := h c c (by omega) hc
      have w4 := h 6 c (by omega) hc
      have wk : Wi ((bg l c c * bg l 6 j + bg l 6 c * bg l c j : Nat) : Int) (D c c * D 6 j - D 6 c * D c j) := by
        have := (w3.mul w2).sub (w4.mul w1)
        rw [Int.natCast_add, Int.natCast_mul, Int.natCast_mul]
        exact this
      have wm : Wi ((max (max (bg l c j) (bg l 6 j)) (bg l c c * bg l 6 j + bg l 6 c * bg l c j) : Nat) : Int) (D' c j) ∧ Wi ((max (max (bg l c j) (bg l 6 j)) (bg l c c * bg l 6 j + bg l 6 c * bg l c j) : Nat) : Int) (D' 6 j) := hm.wi (by omega) (w1.mono (by omega)) (w2.mono (by omega)) (wk.mono (by omega))
      have wz : j < c → D' c j = 0 ∧ D' 6 j = 0 := fun q => hm.zero (by omega) (hA.1.1 c hc j q) (hA.2.1 j q)
      by_cases hrc : r = c
      · subst hrc
        rw [if_pos rfl]
        by_cases hj1 : j < r
        · rw [if_pos hj1, (wz hj1).1]
          exact ⟨by omega, by omega⟩
        · rw [if_neg hj1]
          by_cases hj2 : j = r
          · subst hj2
            rw [if_pos rfl]
            have e : D j j * D 6 j - D 6 j * D j j = 0 := by rw [Int.mul_comm]; omega
            exact (hm.wi (B := (max (bg l j j) (bg l 6 j) : Nat)) (by omega) (w1.mono (by omega)) (w2.mono (by omega)) (by rw [e]; exact ⟨by omega, by omega⟩)).1
          · rw [if_neg hj2]
            exact wm.1
      · rw [if_neg hrc]
        by_cases hr6 : r = 6
        · subst hr6
          rw [if_pos rfl]
          by_cases hj1 : j ≤ c
          · rw [if_pos hj1]
            have : D' 6 j = 0 := by
              by_cases hj2 : j = c
              · rw [hj2]; exact h6
              · exact (wz (by omega)).2
            rw [this]
            exact ⟨by omega, by omega⟩
          · rw [if_neg hj1]
            exact wm.2
        · rw [if_neg hr6, hm.row hrc hr6]
          exact h r j hr hj
  by_cases hrc : r = c
  · subst hrc
    rw [abr_c]
    split
    · exact key
    · exact key.neg
  · rw [abr_r hrc]
    exact key
theorem BS.take {r c : Nat} {l : List Nat} {D : Nat → Nat → Int} {E0 : Nat → Nat → Int} (hn : n ≤ 6) (hrc : r < c) (hc : c < n) (h : BS n l D) (hA : PMA n n E0 D) : BS n (bT l r c) (tks D r c) := by
  intro q j hq hj
  have hp := (hA.1.2.1 c hc).1
  by_cases hqr : q = r
  · subst hqr
    rw [tks_r]
    have wr := h q j hq hj
    have wrc := h q c hq hc
    have wc := h c j (by omega) hj
    have wcc := h c c (by omega) hc
    have hzero : D q c = 0 → flz (D q c) (D c c) = 0 := fun z => by
      rw [z]
      unfold flz
      split
      · rfl
      · exact flo_zero
    have wf : Wi (bg l q c : Int) (flz (D q c) (D c c)) := by
      unfold flz
      by_cases h0 : D c c = 0
      · rw [if_pos h0]
        exact ⟨by omega, by omega⟩
      · rw [if_neg h0]
        have := flo_le (x := D q c) (y := D c c) (by omega)
        have := wrc.1
        have := wrc.2
        exact ⟨by omega, by omega⟩
    unfold bT
    by_cases hz : bg l q c = 0
    · rw [if_pos hz]
      rw [hz] at wrc
      have e0 : D q c = 0 := by have := wrc.1; have := wrc.2; omega
      rw [hzero e0, Int.zero_mul, Int.sub_zero]
      exact wr
    · rw [if_neg hz, bg_bmk hq (by omega), if_pos rfl]
      by_cases h1 : j < c
      · rw [if_pos h1, hA.1.1 c hc j h1, Int.mul_zero, Int.sub_zero]
        exact wr
      · rw [if_neg h1]
        by_cases h2 : j = c
        · subst h2
          rw [if_pos rfl]
          by_cases h0 : D j j = 0
          · unfold flz
            rw [if_pos h0, Int.zero_mul, Int.sub_zero]
            exact wr.mono (by omega)
          · unfold flz
            rw [if_neg h0]
            have := (flo_rest (x := D q j) (y := D j j) h0).1 (by omega)
            have := wcc.2
            exact ⟨by omega, by omega⟩
        · rw [if_neg h2, Int.natCast_add, Int.natCast_mul]
          exact wr.sub (wf.mul wc)
  · rw [tks_q hqr]
    have w := h q j hq hj
    unfold bT
    by_cases hz : bg l r c = 0
    · rw [if_pos hz]; exact w
    · rw [if_neg hz, bg_bmk hq (by omega), if_neg hqr]
      exact w
/-- bounds with a row to be inserted -/
def bSet (l : List Nat) (vb : Nat → Nat) : List Nat := bmk (fun r j => if r = 6 then vb j else bg l r j)
theorem BS.set {l : List Nat} {vb : Nat → Nat} {E : Nat → Nat → Int} {V : Nat → Int} (hn : n ≤ 6) (h : ∀ r j, r < 6 → j < n → Wi (bg l r j : Int) (E r j)) (hV : ∀ j, j < n → Wi (vb j : Int) (V j)) : BS n (bSet l vb) (adC E 6 V) := by
  intro r j hr hj
  unfold bSet
  rw [bg_bmk hr (by omega)]
  by_cases h6 : r = 6
  · rw [if_pos h6, h6, adC_m]
    exact hV j hj
  · rw [if_neg h6, adC_n h6]
    exact h r j (by omega) hj
theorem wi62 {b : Nat} {x : Int} (h : Wi (b : Int) x) (hb : b ≤ 2 ^ 62) : Wi (2 ^ 62) x := h.mono (by omega)
theorem c_insertL {x : Nat} {V : Nat → Int} {E : Nat → Nat → Int} {l L : List Nat} {vb : Nat → Nat} (hL : LA a) (hn : n ≤ 6) (hn1 : 1 ≤ n) (h0 : σ.1 a 0 = i32 n) (hE : ∀ r j, r < 6 → j < n → σ.2 (a + 2 + r) j = oi (E r j)) (hEch : Ech n E) (hB : ∀ r j, r < 6 → j < n → Wi (bg l r j : Int) (E r j)) (hx : ln x = 6) (hV : ∀ j, j < n → σ.2 x j = oi (V j)) (hvb : ∀ j, j < n → Wi (vb j : Int) (V j)) (hrun : runB (opA n) (bSet l vb) = some L) : ∃ τ D, f_X3_insert σ a x = some τ ∧ FLa a σ τ ∧ Mx τ a n D ∧ PMA n n (adC E 6 V) D ∧ BS n L D := by
  have hE0 : PMA n 0 (adC E 6 V) (adC E 6 V) := ⟨⟨fun r hr j hj => by rw [adC_n (by omega)]; exact hEch.1 r hr j hj, fun r hr => by rw [adC_n (by omega)]; exact hEch.2.1 r hr, fun r r1 r2 j hj => by rw [adC_n (by omega)]; exact hEch.2.2 r r1 r2 j hj⟩, fun j hj => absurd hj (Nat.not_lt_zero _), SpE.refl⟩
  have hins := c_insert (σ := σ) (a := a) (n := n) (x := x) (V := V) (E := E) (PM := fun c D => PMA n c (adC E 6 V) D ∧ ∃ l, BS n l D ∧ runB (opM n c ++ opL n n) l = some L) (PT := fun r c D => PMA n n (adC E 6 V) D ∧ ∃ l, BS n l D ∧ runB (opR n r c ++ opL n r) l = some L) hL hn hn1 h0 hE hx hV ?_ ?_ ?_ ?_ ⟨hE0, _, BS.set hn hB hvb, hrun⟩
  · obtain ⟨τ, D, e, f, m, pA, l, pB, pr⟩ := hins
    refine ⟨τ, D, e, f, m, pA, ?_⟩
    have e2 : opR n 0 n ++ opL n 0 = [] := by
      unfold opR
      rw [rg_end]
      rfl
    rw [e2] at pr
    have : l = L := Option.some.inj pr
    rw [← this]
    exact pB
  · rintro c D hc ⟨pA, l, pB, pr⟩
    have e2 : opM n c ++ opL n n = (6, c) :: (opM n (c + 1) ++ opL n n) := by
      unfold opM
      rw [rg_go hc]
      rfl
    rw [e2] at pr
    obtain ⟨k1, k2, k3⟩ := runB_go pr
    have k3' : runB (opM n (c + 1) ++ opL n n) (bM l c) = some L := k3
    exact ⟨wi62 (pB c c (by omega) hc) k2, wi62 (pB 6 c (by omega) hc) k1, fun D' hm h6 q1 q2 => ⟨pA.next hn hc hm h6 q1 q2, _, pB.meet hn hc pA hm h6 q1, k3'⟩⟩
  · rintro r c D hr hc ⟨pA, l, pB, pr⟩
    have e2 : opR n r c ++ opL n r = (r, c) :: (opR n r (c + 1) ++ opL n r) := by
      unfold opR
      rw [rg_go hc]
      rfl
    rw [e2] at pr
    obtain ⟨k1, k2, k3⟩ := runB_go pr
    have k3' : runB (opR n r (c + 1) ++ opL n r) (bT l r c) = some L := by
      have : stB (r, c) l = bT l r c := by
        unfold stB
        rw [if_neg (show ¬ (r, c).1 = 6 by show ¬ r = 6; omega)]
      rw [← this]
      exact k3
    exact ⟨wi62 (pB r c (by omega) hc) k1, wi62 (pB c c (by omega) hc) k2, pA.tidy hn hr hc, _, pB.take hn hr hc pA, k3'⟩
  · rintro D ⟨pA, l, pB, pr⟩
    refine ⟨pA, l, pB, ?_⟩
    have e2 : opM n n ++ opL n n = opL n n := by
      unfold opM
      rw [rg_end]
      rfl
    have e3 : opR n (n - 1) n ++ opL n (n - 1) = opL n n := by
      obtain ⟨k, rfl⟩ : ∃ k, n = k + 1 := ⟨n - 1, by omega⟩
      rfl
    rw [e2] at pr
    rw [e3]
    exact pr
  · rintro r D hr ⟨pA, l, pB, pr⟩
    refine ⟨pA, l, pB, ?_⟩
    have e2 : opR n (r + 1) n ++ opL n (r + 1) = opR n r (r + 1) ++ opL n r := by
      unfold opR
      rw [rg_end]
      rfl
    rw [e2] at pr
    exact pr
end BND
