/-! the class's lattice: emptied; a row reduced: whether nothing is left -/
section RDC
variable {σ : Mem} {a n : Nat}
theorem c_clear (hL : LA a) (hn : n ≤ 6) : ∃ τ E, f_X3_clear σ a (i32 n) = some τ ∧ τ.1 = (wI σ a 0 (i32 n)).1 ∧ (∀ x, ¬ (a + 2 ≤ x ∧ x ≤ a + 8) → τ.2 x = σ.2 x) ∧ Mx τ a n E ∧ ∀ r j, r < 6 → E r j = 0 := by
  have e1 : f_J9_min_7cf53 σ (i32 n) 6 = some (i32 n) := by
    have := e_min (σ := σ) (a := n) (b := 6) (by omega) (by omega)
    rw [Nat.min_eq_left hn] at this
    exact this
  have e2 : f_J9_max_7cf53 σ 0 (i32 n) = some (i32 n) := by
    have := e_maxN (σ := σ) (a := 0) (b := n) (by omega) (by omega)
    rw [Nat.max_eq_right (Nat.zero_le _)] at this
    exact this
  unfold f_X3_clear
  rw [e1, e_bs, e2, e_bs, e_pF]
  have hl := loop_inv (body := fun (z5 : (Mem × Int32)) => l_X3_clear_16 a z5.1 z5.2) (fun k z => ∃ r τ, r ≤ 6 ∧ k = 6 - r ∧ z = (τ, i32 r) ∧ τ.1 = (wI σ a 0 (i32 n)).1 ∧ (∀ x, ¬ (a + 2 ≤ x ∧ x ≤ a + 8) → τ.2 x = σ.2 x) ∧ ∀ q j, q < r → j < 6 → τ.2 (a + 2 + q) j = 0) (fun τ => τ.1 = (wI σ a 0 (i32 n)).1 ∧ (∀ x, ¬ (a + 2 ≤ x ∧ x ≤ a + 8) → τ.2 x = σ.2 x) ∧ ∀ q j, q < 6 → j < 6 → τ.2 (a + 2 + q) j = 0) ?_ 6 (wI σ a 0 (i32 n), 0) ⟨0, _, by omega, rfl, rfl, rfl, fun _ _ => rfl, fun q j hq => absurd hq (Nat.not_lt_zero _)⟩
  · obtain ⟨τ, e, h1, h2, h3⟩ := hl
    refine ⟨τ, fun r j => if r < 6 then 0 else (τ.2 (a + 2 + r) j).toInt, e, h1, h2, fun r j hr hj => ?_, fun r j hr => if_pos hr⟩
    by_cases h6 : r < 6
    · show _ = oi (if r < 6 then 0 else _)
      rw [if_pos h6, h3 r j h6 (by omega)]
      rfl
    · show _ = oi (if r < 6 then 0 else _)
      rw [if_neg h6]
      exact oi_toInt'.symm
  · rintro k z ⟨r, τ, hr, rfl, rfl, h1, h2, h3⟩
    by_cases h6 : r = 6
    · right
      subst h6
      refine ⟨τ, ?_, h1, h2, h3⟩
      show l_X3_clear_16 a τ (i32 6) = _
      unfold l_X3_clear_16
      rw [if_pos (by decide)]
    · left
      obtain ⟨τ2, e3, o3, z3⟩ := fillL (σ := τ) (a := a + 2 + r) (n := 6) (v := 0) (hL.2.2.2.2 r (by omega)) (by omega)
      refine ⟨(τ2, i32 (r + 1)), 6 - (r + 1), by omega, ?_, r + 1, τ2, by omega, rfl, rfl, by rw [o3.1]; exact h1, fun x hx => by rw [o3.2 x (by omega)]; exact h2 x hx, fun q j hq hj => ?_⟩
      · show l_X3_clear_16 a τ (i32 r) = _
        unfold l_X3_clear_16
        rw [if_neg (show ¬ 6 ≤ i32 r from i_nle (a := 6) (by omega) (by omega)), e_gRL hL (by omega), e3, e_bs, i32_1, i32_add]
      · by_cases hqr : q = r
        · rw [hqr]; exact z3 j hj
        · rw [o3.2 _ (by omega)]
          exact h3 q j (by omega) hj
/-- a row, less whole rows, up to a column -/
def rdc (E : Nat → Nat → Int) (X : Nat → Int) : Nat → Nat → Int
  | 0 => X
  | c + 1 => fun j => rdc E X c j - flz (rdc E X c c) (E c c) * E c j
theorem c_reduce {x : Nat} {X : Nat → Int} {E : Nat → Nat → Int} (hL : LA a) (hn : n ≤ 6) (h0 : σ.1 a 0 = i32 n) (hE : ∀ r j, r < n → j < n → σ.2 (a + 2 + r) j = oi (E r j)) (hx : ln x = 6) (hxa : ¬ (a + 2 ≤ x ∧ x ≤ a + 8)) (hX : ∀ j, j < n → σ.2 x j = oi (X j)) (hW : ∀ c, c < n → (E c c ≠ 0 → Wi (2 ^ 62) (rdc E X c c)) ∧ Wi (2 ^ 62) (E c c) ∧ Wi (2 ^ 62) (rdc E X (c + 1) c)) : ∃ b τ, f_X3_reduce σ a x = some (b, τ) ∧ τ.1 = σ.1 ∧ (∀ z, z ≠ x → τ.2 z = σ.2 z) ∧ (∀ j, j < n → τ.2 x j = oi (rdc E X n j)) ∧ (b = true ↔ ∀ c, c < n → rdc E X (c + 1) c = 0) := by
  unfold f_X3_reduce
  have hl := loop_inv (body := fun (z3 : (Mem × Int32 × Int32)) => l_X3_reduce_4 a x z3.1 z3.2.1 z3.2.2) (fun k z => ∃ c τ b, c ≤ n ∧ k = n - c ∧ z = (τ, b2i b, i32 c) ∧ τ.1 = σ.1 ∧ (∀ z, z ≠ x → τ.2 z = σ.2 z) ∧ (∀ j, j < n → τ.2 x j = oi (rdc E X c j)) ∧ (b = true ↔ ∀ e, e < c → rdc E X (e + 1) e = 0)) (fun y => ∃ b τ, y = (b, τ) ∧ τ.1 = σ.1 ∧ (∀ z, z ≠ x → τ.2 z = σ.2 z) ∧ (∀ j, j < n → τ.2 x j = oi (rdc E X n j)) ∧ (b = true ↔ ∀ c, c < n → rdc E X (c + 1) c = 0)) ?_ n (σ, 1, 0) ⟨0, σ, true, by omega, rfl, rfl, rfl, fun _ _ => rfl, hX, fun _ e he => absurd he (Nat.not_lt_zero _), fun _ => rfl⟩
  · obtain ⟨y, e, b, τ, rfl, h⟩ := hl
    exact ⟨b, τ, e, h⟩
  · rintro k z ⟨c, τ, b, hc, rfl, rfl, f1, f2, v, hb⟩
    have g0 : τ.1 a 0 = i32 n := by rw [f1]; exact h0
    by_cases hcn : c = n
    · right
      subst hcn
      refine ⟨_, ?_, b, τ, rfl, f1, f2, v, hb⟩
      show l_X3_reduce_4 a x τ (b2i b) (i32 c) = _
      unfold l_X3_reduce_4
      rw [e_gF, g0, if_pos (i_le (Nat.le_refl _) (by omega)), e_rB]
    · left
      obtain ⟨w1, w2, w3⟩ := hW c (by omega)
      obtain ⟨τ2, e2, k1, k2, k3⟩ := c_take (σ := τ) (x := x) (c := c) (X := rdc E X c) (E := E) hL hn g0 (by omega) (fun j hj => by rw [f2 _ (by omega)]; exact hE c j (by omega) hj) hx (by omega) v w1 w2
      have vc : τ2.2 x c = oi (rdc E X (c + 1) c) := k3 c (by omega)
      have fin : ∀ b', (b' = true ↔ b = true ∧ rdc E X (c + 1) c = 0) → l_X3_reduce_4 a x τ (b2i b) (i32 c) = some (Sum.inl (τ2, b2i b', i32 (c + 1))) → ∃ s' n', n' < n - c ∧ l_X3_reduce_4 a x (τ, b2i b, i32 c).1 (τ, b2i b, i32 c).2.1 (τ, b2i b, i32 c).2.2 = some (Sum.inl s') ∧ ∃ c τ b, c ≤ n ∧ n' = n - c ∧ s' = (τ, b2i b, i32 c) ∧ τ.1 = σ.1 ∧ (∀ z, z ≠ x → τ.2 z = σ.2 z) ∧ (∀ j, j < n → τ.2 x j = oi (rdc E X c j)) ∧ (b = true ↔ ∀ e, e < c → rdc E X (e + 1) e = 0) := fun b' hb' e => by
        refine ⟨(τ2, b2i b', i32 (c + 1)), n - (c + 1), by omega, e, c + 1, τ2, b', by omega, rfl, rfl, k1.trans f1, fun z hz => (k2 z hz).trans (f2 z hz), k3, ?_⟩
        rw [hb', hb]
        constructor
        · rintro ⟨q1, q2⟩ e he
          by_cases hec : e = c
          · rw [hec]; exact q2
          · exact q1 e (by omega)
        · intro q
          exact ⟨fun e he => q e (by omega), q c (by omega)⟩
      have hbody : ∀ b', ((if b2i b = 0 then (some (Sum.inl ())) else (gL τ2 x (i32 c) (fun (v8 : Int64) => if v8 = 0 then (some (Sum.inr true)) else (some (Sum.inl ())))) : Option (Unit ⊕ Bool)).bind (Sum.elim (fun (z7 : Unit) => j_X3_reduce_34) some) : Option Bool) = some b' → l_X3_reduce_4 a x τ (b2i b) (i32 c) = some (Sum.inl (τ2, b2i b', i32 (c + 1))) := fun b' e => by
        unfold l_X3_reduce_4
        rw [e_gF, g0, if_neg (i_nle (by omega) (by omega)), e2, e_bs, e, e_bs]
        unfold j_X3_reduce_35
        rw [i32_1, i32_add]
      cases b with
      | false =>
        refine fin false ⟨fun q => absurd q (by decide), fun q => absurd q.1 (by decide)⟩ (hbody false ?_)
        rw [if_pos (show b2i false = 0 from rfl), e_bs]
        rfl
      | true =>
        by_cases hz : rdc E X (c + 1) c = 0
        · refine fin true ⟨fun _ => ⟨rfl, hz⟩, fun _ => rfl⟩ (hbody true ?_)
          rw [if_neg (show ¬ b2i true = 0 by decide), e_gL hx (by omega) (by omega), vc, if_pos ((oi_is0 w3).mpr hz), e_bs]
          rfl
        · refine fin false ⟨fun q => absurd q (by decide), fun q => absurd q.2 hz⟩ (hbody false ?_)
          rw [if_neg (show ¬ b2i true = 0 by decide), e_gL hx (by omega) (by omega), vc, if_neg (fun q => hz ((oi_is0 w3).mp q)), e_bs]
          rfl
/-- a number that no row has stays: then something is left -/
theorem c_reduceNo {x c0 : Nat} {E : Nat → Nat → Int} (hL : LA a) (hn : n ≤ 6) (h0 : σ.1 a 0 = i32 n) (hE : ∀ r j, r < n → j < n → σ.2 (a + 2 + r) j = oi (E r j)) (hx : ln x = 6) (hxa : ¬ (a + 2 ≤ x ∧ x ≤ a + 8)) (hc0 : c0 < n) (hz : ∀ r, r < n → E r c0 = 0) (hX : σ.2 x c0 ≠ 0) (hW : ∀ c, c < n → Wi (2 ^ 62) (E c c)) : ∃ τ, f_X3_reduce σ a x = some (false, τ) ∧ τ.1 = σ.1 ∧ ∀ z, z ≠ x → τ.2 z = σ.2 z := by
  unfold f_X3_reduce
  have hl := loop_inv (body := fun (z3 : (Mem × Int32 × Int32)) => l_X3_reduce_4 a x z3.1 z3.2.1 z3.2.2) (fun k z => ∃ c τ b, c ≤ n ∧ k = n - c ∧ z = (τ, b2i b, i32 c) ∧ τ.1 = σ.1 ∧ (∀ z, z ≠ x → τ.2 z = σ.2 z) ∧ τ.2 x c0 = σ.2 x c0 ∧ (c0 < c → b = false)) (fun y => ∃ τ, y = (false, τ) ∧ τ.1 = σ.1 ∧ ∀ z, z ≠ x → τ.2 z = σ.2 z) ?_ n (σ, 1, 0) ⟨0, σ, true, by omega, rfl, rfl, rfl, fun _ _ => rfl, rfl, fun q => absurd q (Nat.not_lt_zero _)⟩
  · obtain ⟨y, e, τ, rfl, h⟩ := hl
    exact ⟨τ, e, h⟩
  · rintro k z ⟨c, τ, b, hc, rfl, rfl, f1, f2, v, hb⟩
    have g0 : τ.1 a 0 = i32 n := by rw [f1]; exact h0
    by_cases hcn : c = n
    · right
      have hbf : b = false := hb (by omega)
      subst hbf
      refine ⟨_, ?_, τ, rfl, f1, f2⟩
      show l_X3_reduce_4 a x τ (b2i false) (i32 c) = _
      unfold l_X3_reduce_4
      rw [e_gF, g0, if_pos (i_le (by omega) (by omega)), e_rB]
    · left
      have w2 := hW c (by omega)
      have hlc := hL.2.2.2.2 c (by omega)
      have vE : ∀ j, j < n → τ.2 (a + 2 + c) j = oi (E c j) := fun j hj => by rw [f2 _ (by omega)]; exact hE c j (by omega) hj
      have htake : ∃ τ2, f_X3_takeStep τ a x (i32 c) = some τ2 ∧ τ2.1 = τ.1 ∧ (∀ z, z ≠ x → τ2.2 z = τ.2 z) ∧ τ2.2 x c0 = τ.2 x c0 := by
        unfold f_X3_takeStep
        rw [e_gRL hL (by omega), e_gL hlc (by omega) (by omega), vE c (by omega)]
        by_cases hp : E c c = 0
        · exact ⟨τ, by rw [if_pos ((oi_is0 w2).mpr hp)], rfl, fun _ _ => rfl, rfl⟩
        · have hne : oi (E c c) ≠ 0 := fun q => hp ((oi_is0 w2).mp q)
          have hfd : ∃ t, f_J9_floorDiv_f86c9 τ (τ.2 x c) (oi (E c c)) = some t := by
            unfold f_J9_floorDiv_f86c9
            rw [e_nzL hne, e_bd]
            split
            · exact ⟨_, rfl⟩
            · split
              · exact ⟨_, rfl⟩
              · exact ⟨_, rfl⟩
          obtain ⟨t, ht⟩ := hfd
          refine ⟨rwL τ x (fun y => if y < n then τ.2 x y - t * τ.2 (a + 2 + c) y else τ.2 x y), ?_, rfl, fun z hz => rwL_x hz, ?_⟩
          · rw [if_neg hne, e_gRL hL (by omega), e_gL hx (by omega) (by omega), e_gRL hL (by omega), e_gL hlc (by omega) (by omega), vE c (by omega), ht, e_bs, c_sub hn g0 hx hlc (by omega), e_bs]
          · refine rwL_a.trans ?_
            show (if c0 < n then _ else _) = _
            rw [if_pos hc0, vE c0 hc0, hz c (by omega)]
            show _ - t * 0 = _
            rw [Int64.mul_zero, Int64.sub_zero]
      obtain ⟨τ2, e2, k1, k2, k3⟩ := htake
      have hbb : ∃ b', ((if b2i b = 0 then (some (Sum.inl ())) else (gL τ2 x (i32 c) (fun (v8 : Int64) => if v8 = 0 then (some (Sum.inr true)) else (some (Sum.inl ())))) : Option (Unit ⊕ Bool)).bind (Sum.elim (fun (z7 : Unit) => j_X3_reduce_34) some) : Option Bool) = some b' ∧ (b = false → b' = false) ∧ (c = c0 → b' = false) := by
        cases b with
        | false =>
          refine ⟨false, ?_, fun _ => rfl, fun _ => rfl⟩
          rw [if_pos (show b2i false = 0 from rfl), e_bs]
          rfl
        | true =>
          rw [if_neg (show ¬ b2i true = 0 by decide), e_gL hx (by omega) (by omega)]
          by_cases hv : τ2.2 x c = 0
          · refine ⟨true, ?_, fun q => absurd q (by decide), fun q => ?_⟩
            · rw [if_pos hv, e_bs]
              rfl
            · rw [q, k3, v] at hv
              exact absurd hv hX
          · refine ⟨false, ?_, fun _ => rfl, fun _ => rfl⟩
            rw [if_neg hv, e_bs]
            rfl
      obtain ⟨b', e3, p1, p2⟩ := hbb
      refine ⟨(τ2, b2i b', i32 (c + 1)), n - (c + 1), by omega, ?_, c + 1, τ2, b', by omega, rfl, rfl, k1.trans f1, fun z hz => (k2 z hz).trans (f2 z hz), k3.trans v, fun q => ?_⟩
      · show l_X3_reduce_4 a x τ (b2i b) (i32 c) = _
        unfold l_X3_reduce_4
        rw [e_gF, g0, if_neg (i_nle (by omega) (by omega)), e2, e_bs, e3, e_bs]
        unfold j_X3_reduce_35
        rw [i32_1, i32_add]
      · by_cases hcc : c = c0
        · exact p2 hcc
        · exact p1 (hb (by omega))
/-! whether a row is made of the rows -/
theorem flo_mul {z p : Int} (h : 0 < p) : flo (z * p) p = z := by
  have h1 := (flo_rest (x := z * p) (y := p) (by omega)).1 h
  generalize flo (z * p) p = f at h1
  have e : z * p - f * p = (z - f) * p := by rw [Int.sub_mul]
  rw [e] at h1
  rcases (show z - f ≤ -1 ∨ z - f = 0 ∨ 1 ≤ z - f by omega) with q | q | q
  · have := Int.mul_le_mul_of_nonneg_right (a := z - f) (b := -1) (c := p) q (by omega)
    omega
  · omega
  · have := Int.mul_le_mul_of_nonneg_right (a := 1) (b := z - f) (c := p) q (by omega)
    omega
theorem rdc_low {E : Nat → Nat → Int} {X : Nat → Int} (hE : Ech n E) {c j : Nat} (hj : j < c) : ∀ d, c + d ≤ n → rdc E X (c + d) j = rdc E X c j
  | 0, _ => rfl
  | d + 1, h => by
    show rdc E X (c + d) j - flz (rdc E X (c + d) (c + d)) (E (c + d) (c + d)) * E (c + d) j = _
    rw [hE.1 (c + d) (by omega) j (by omega), Int.mul_zero, Int.sub_zero]
    exact rdc_low hE hj d (by omega)
theorem rdc_span {E : Nat → Nat → Int} {X : Nat → Int} (hn : n ≤ 6) : ∀ c, c ≤ n → Spn (fun j => j < n) E 6 (fun j => X j - rdc E X c j)
  | 0, _ => Spn.zero.congr (fun j _ => Int.sub_self _)
  | c + 1, h => ((rdc_span hn c (by omega)).add ((Spn.col (C := E) (c := c) (by omega)).mul (flz (rdc E X c c) (E c c)))).congr (fun j _ => by
    show X j - (rdc E X c j - _) = X j - rdc E X c j + _
    omega)
theorem rdc_member {E : Nat → Nat → Int} {X : Nat → Int} (hn : n ≤ 6) (hE : Ech n E) : (∀ c, c < n → rdc E X (c + 1) c = 0) ↔ Spn (fun j => j < n) E 6 X := by
  constructor
  · intro h
    refine (rdc_span (E := E) (X := X) hn n (Nat.le_refl _)).congr (fun j hj => ?_)
    have e := rdc_low (X := X) hE (c := j + 1) (j := j) (by omega) (n - (j + 1)) (by omega)
    rw [show j + 1 + (n - (j + 1)) = n by omega] at e
    show X j = X j - rdc E X n j
    rw [e, h j hj, Int.sub_zero]
  · intro hs
    have key : ∀ c, c ≤ n → ∃ z : Nat → Int, (∀ j, j < n → rdc E X c j = cb z E j 6) ∧ ∀ r, r < c → z r = 0 := by
      intro c
      induction c with
      | zero =>
        intro _
        obtain ⟨z, hz⟩ := hs
        exact ⟨z, hz, fun r hr => absurd hr (Nat.not_lt_zero _)⟩
      | succ c ih =>
        intro hc
        obtain ⟨z, hz, z0⟩ := ih (by omega)
        refine ⟨fun r => if r = c then 0 else z r, fun j hj => ?_, fun r hr => ?_⟩
        · have hcc : rdc E X c c = z c * E c c := by
            rw [hz c (by omega), cb_cut (C := E) (f := c + 1) (m := 6) (by omega) (fun r r1 r2 => by
              by_cases hr : r < n
              · exact hE.1 r hr c (by omega)
              · exact hE.2.2 r (by omega) r2 c (by omega))]
            show cb z E c c + z c * E c c = _
            rw [cb_zero c (fun r hr => by rw [z0 r hr, Int.zero_mul]), Int.zero_add]
          have hsplit : cb z E j 6 = cb (fun r => if r = c then 0 else z r) E j 6 + z c * E c j := by
            have e : cb z E j 6 = cb (fun r => (if r = c then 0 else z r) + (z c * if r = c then 1 else 0)) E j 6 := cb_congr 6 (fun r _ => by
              by_cases hr : r = c
              · subst hr
                rw [if_pos rfl, if_pos rfl]
                grind
              · rw [if_neg hr, if_neg hr]
                grind)
            rw [e, cb_add, cb_mul, cb_one, if_pos (by omega)]
          show rdc E X c j - flz (rdc E X c c) (E c c) * E c j = _
          rw [hz j hj, hsplit, hcc]
          have hp := hE.2.1 c (by omega)
          unfold flz
          by_cases h0 : E c c = 0
          · rw [if_pos h0, hp.2 h0 j hj]
            omega
          · rw [if_neg h0, flo_mul (by omega)]
            omega
        · show (if r = c then 0 else z r) = 0
          by_cases hrc : r = c
          · rw [if_pos hrc]
          · rw [if_neg hrc]
            exact z0 r (by omega)
    intro c hc
    obtain ⟨z, hz, z0⟩ := key (c + 1) (by omega)
    rw [hz c (by omega)]
    refine cb_zero 6 (fun r hr => ?_)
    by_cases h1 : r < c + 1
    · rw [z0 r h1, Int.zero_mul]
    · by_cases h2 : r < n
      · rw [hE.1 r h2 c (by omega), Int.mul_zero]
      · rw [hE.2.2 r (by omega) hr c hc, Int.mul_zero]
end RDC
