/-! kinds -/
section KND
variable {σ : Mem} {G : GD}
theorem e_gT {α : Type} {k i n : Nat} {f : Int32 → Option α} (hn : tabL k = n) (h : i < n) (h2 : n < 2 ^ 31) : gT k (i32 i) f = f (tab k i) := by
  unfold gT
  rw [hn, if_pos (i32_inb h h2), i32_cl (by omega)]
/-- the tails of the kinds: kind, j, i, k -/
def KT : List (Nat × Nat × Nat × Nat) := [(0, 1, 0, 2), (1, 1, 0, 2), (1, 2, 0, 3), (1, 2, 1, 4), (2, 2, 0, 3), (2, 2, 1, 4), (2, 3, 1, 5), (2, 4, 0, 5)]
def kn (κ : Nat) : Nat := [3, 5, 6, 6].getD κ 0
def kw (κ : Nat) : Nat := [37, 997, 3733, 1365].getD κ 0
def kf (κ : Nat) : Nat → GD
  | 0 => GW (kn κ) (kw κ)
  | q + 1 => if (KT.getD q (9, 0, 0, 0)).1 = κ then upT (kf κ q) (KT.getD q (9, 0, 0, 0)).2.1 (KT.getD q (9, 0, 0, 0)).2.2.1 (KT.getD q (9, 0, 0, 0)).2.2.2 1 else kf κ q
theorem kf_g (κ : Nat) : ∀ q, gn (kf κ q) = kn κ ∧ gw (kf κ q) = fun i => dgt (kw κ) i := by
  intro q
  induction q with
  | zero => exact ⟨rfl, rfl⟩
  | succ q ih =>
    show gn (if _ then _ else _) = _ ∧ gw (if _ then _ else _) = _
    split
    · exact ih
    · exact ih
theorem kt_ok {κ q : Nat} (hκ : κ < 4) (hq : q < 8) (h : (KT.getD q (9, 0, 0, 0)).1 = κ) : (KT.getD q (9, 0, 0, 0)).2.2.1 < (KT.getD q (9, 0, 0, 0)).2.1 ∧ (KT.getD q (9, 0, 0, 0)).2.1 < (KT.getD q (9, 0, 0, 0)).2.2.2 ∧ (KT.getD q (9, 0, 0, 0)).2.2.2 < kn κ ∧ dgt (kw κ) (KT.getD q (9, 0, 0, 0)).2.2.1 + dgt (kw κ) (KT.getD q (9, 0, 0, 0)).2.1 ≤ dgt (kw κ) (KT.getD q (9, 0, 0, 0)).2.2.2 := by
  have key : (List.range 4).all (fun κ => (List.range 8).all (fun q => !(decide ((KT.getD q (9, 0, 0, 0)).1 = κ)) || decide ((KT.getD q (9, 0, 0, 0)).2.2.1 < (KT.getD q (9, 0, 0, 0)).2.1 ∧ (KT.getD q (9, 0, 0, 0)).2.1 < (KT.getD q (9, 0, 0, 0)).2.2.2 ∧ (KT.getD q (9, 0, 0, 0)).2.2.2 < kn κ ∧ dgt (kw κ) (KT.getD q (9, 0, 0, 0)).2.2.1 + dgt (kw κ) (KT.getD q (9, 0, 0, 0)).2.1 ≤ dgt (kw κ) (KT.getD q (9, 0, 0, 0)).2.2.2))) = true := by decide +kernel
  have h1 := List.all_eq_true.mp key κ (List.mem_range.mpr hκ)
  have h2 := List.all_eq_true.mp h1 q (List.mem_range.mpr hq)
  rw [decide_eq_true h] at h2
  simpa using h2
theorem kn_ok {κ : Nat} (hκ : κ < 4) : OKW (kn κ) (kw κ) := by
  have key : (List.range 4).all (fun κ => decide (1 ≤ kn κ ∧ kn κ ≤ 6 ∧ kw κ < 4 ^ kn κ) && (List.range (kn κ)).all (fun i => decide (ah (kw κ) i ≤ dgt (kw κ) i))) = true := by decide +kernel
  have h1 := List.all_eq_true.mp key κ (List.mem_range.mpr hκ)
  rw [Bool.and_eq_true] at h1
  have h2 := of_decide_eq_true h1.1
  exact ⟨h2.1, h2.2.1, h2.2.2, fun i hi => of_decide_eq_true (List.all_eq_true.mp h1.2 i (List.mem_range.mpr hi))⟩
theorem kf_ok {κ : Nat} (hκ : κ < 4) : ∀ q, q ≤ 8 → GOK (kf κ q) := by
  intro q
  induction q with
  | zero => intro _; exact GW_ok (kn_ok hκ)
  | succ q ih =>
    intro hq
    have h1 := ih (by omega)
    have hg := kf_g κ q
    show GOK (if (KT.getD q (9, 0, 0, 0)).1 = κ then _ else _)
    by_cases h : (KT.getD q (9, 0, 0, 0)).1 = κ
    · rw [if_pos h]
      have h2 := kt_ok hκ (by omega) h
      exact upT_ok h1 (by omega) ⟨h2.1, h2.2.1, by rw [hg.1]; exact h2.2.2.1⟩ (Or.inr (by rw [hg.2]; exact h2.2.2.2))
    · rw [if_neg h]; exact h1
theorem tabL_2 : tabL 2 = 32 := by decide +kernel
theorem tabL_0 : tabL 0 = 4 := by decide +kernel
theorem tabL_1 : tabL 1 = 4 := by decide +kernel
theorem tab_k {κ : Nat} (h : κ < 4) : tab 0 κ = i32 (kn κ) ∧ tab 1 κ = i32 (kw κ) := by
  have key : (List.range 4).all (fun κ => decide (tab 0 κ = i32 (kn κ)) && decide (tab 1 κ = i32 (kw κ))) = true := by decide +kernel
  have h1 := List.all_eq_true.mp key κ (List.mem_range.mpr h)
  rw [Bool.and_eq_true] at h1
  exact ⟨of_decide_eq_true h1.1, of_decide_eq_true h1.2⟩
theorem tab_t {q : Nat} (h : q < 8) : tab 2 (4 * q) = i32 (KT.getD q (9, 0, 0, 0)).1 ∧ tab 2 (4 * q + 1) - 1 = i32 (KT.getD q (9, 0, 0, 0)).2.1 ∧ tab 2 (4 * q + 2) - 1 = i32 (KT.getD q (9, 0, 0, 0)).2.2.1 ∧ tab 2 (4 * q + 3) - 1 = i32 (KT.getD q (9, 0, 0, 0)).2.2.2 ∧ (KT.getD q (9, 0, 0, 0)).1 < 4 := by
  have key : (List.range 8).all (fun q => decide (tab 2 (4 * q) = i32 (KT.getD q (9, 0, 0, 0)).1) && (decide (tab 2 (4 * q + 1) - 1 = i32 (KT.getD q (9, 0, 0, 0)).2.1) && (decide (tab 2 (4 * q + 2) - 1 = i32 (KT.getD q (9, 0, 0, 0)).2.2.1) && (decide (tab 2 (4 * q + 3) - 1 = i32 (KT.getD q (9, 0, 0, 0)).2.2.2) && decide ((KT.getD q (9, 0, 0, 0)).1 < 4))))) = true := by decide +kernel
  have h1 := List.all_eq_true.mp key q (List.mem_range.mpr h)
  simp only [Bool.and_eq_true, decide_eq_true_eq] at h1
  exact h1
theorem FRu.refl : FRu σ σ := ⟨rfl, fun _ _ _ _ => rfl⟩
theorem FRu.trans {τ υ : Mem} (h : FRu σ τ) (k : FRu τ υ) : FRu σ υ := ⟨k.1.trans h.1, fun x h1 h2 h3 => (k.2 x h1 h2 h3).trans (h.2 x h1 h2 h3)⟩
theorem c_takeKind {κ : Nat} (hκ : κ < 4) : ∃ τ, f_X6_takeKind σ 2 (i32 κ) = some τ ∧ FRu σ τ ∧ CG τ 2 (kf κ 8) := by
  unfold f_X6_takeKind
  have hk := kn_ok hκ
  have h4 : 4 ^ kn κ ≤ 4 ^ 6 := Nat.pow_le_pow_right (by omega) hk.2.1
  have hw := hk.2.2.1
  obtain ⟨σ1, e1, f1, m1⟩ := c_reset (σ := σ) (n := kn κ) (w := kw κ) hk.2.1 (by omega)
  rw [if_neg (show ¬ i32 κ < 0 from i_nlt (b := 0) (by omega) (by omega)), tabL_0, if_neg (show ¬ Int32.ofNat 4 ≤ i32 κ from i_nle (b := κ) (a := 4) hκ (by omega)), tabL_1, if_pos (show i32 κ < Int32.ofNat 4 from i_lt (b := 4) hκ (by omega)), e_gT tabL_0 hκ (by omega), (tab_k hκ).1, e_gT tabL_1 hκ (by omega), (tab_k hκ).2, e1, e_bs]
  refine loop_inv (body := fun (z5 : (Mem × Int32)) => l_X6_takeKind_37 2 (i32 κ) z5.1 z5.2) (fun n z => ∃ q τ, q ≤ 8 ∧ n = 8 - q ∧ z = (τ, i32 (4 * q)) ∧ FRu σ τ ∧ CG τ 2 (kf κ q)) _ ?_ 8 (σ1, 0) ⟨0, σ1, by omega, rfl, rfl, f1, m1⟩
  rintro n z ⟨q, τ, hq, rfl, rfl, f, m⟩
  by_cases hq8 : q = 8
  · right
    subst hq8
    refine ⟨τ, ?_, f, m⟩
    show l_X6_takeKind_37 2 (i32 κ) τ (i32 32) = _
    unfold l_X6_takeKind_37
    rw [tabL_2, i32_3, i32_add, if_pos (show Int32.ofNat 32 ≤ i32 35 by decide)]
  · left
    have hq' : q < 8 := by omega
    obtain ⟨t0, t1, t2, t3, t4⟩ := tab_t hq'
    have step : ∀ υ, FRu σ υ → CG υ 2 (kf κ (q + 1)) → ∃ s' n', n' < 8 - q ∧ (some υ : Option Mem).bind (fun (z7 : Mem) => j_X6_takeKind_88 (i32 (4 * q)) z7) = some (Sum.inl s') ∧ ∃ q τ, q ≤ 8 ∧ n' = 8 - q ∧ s' = (τ, i32 (4 * q)) ∧ FRu σ τ ∧ CG τ 2 (kf κ q) := by
      intro υ f2 m2
      refine ⟨(υ, i32 (4 * (q + 1))), 8 - (q + 1), by omega, ?_, q + 1, υ, by omega, rfl, rfl, f2, m2⟩
      rw [e_bs]
      unfold j_X6_takeKind_88
      rw [i32_4, i32_add, show 4 * q + 4 = 4 * (q + 1) by omega]
    have hstart : ∀ {x : Option Mem} {y}, (if i32 (KT.getD q (9, 0, 0, 0)).1 = i32 κ then ((f_X6_write τ 2 (i32 (KT.getD q (9, 0, 0, 0)).2.1) (i32 (KT.getD q (9, 0, 0, 0)).2.2.1) (i32 (KT.getD q (9, 0, 0, 0)).2.2.2) 1).bind (fun (σ11 : Mem) => some σ11)) else (some τ) : Option Mem) = x → x.bind (fun (z7 : Mem) => j_X6_takeKind_88 (i32 (4 * q)) z7) = y → l_X6_takeKind_37 2 (i32 κ) τ (i32 (4 * q)) = y := by
      intro x y hx hy
      unfold l_X6_takeKind_37
      rw [tabL_2, i32_3, i32_add, if_neg (show ¬ Int32.ofNat 32 ≤ i32 (4 * q + 3) from i_nle (b := 4 * q + 3) (a := 32) (by omega) (by omega)), e_gT tabL_2 (by omega) (by omega), t0, i32_1, i32_add, e_gT tabL_2 (by omega) (by omega), i32_2, i32_add, e_gT tabL_2 (by omega) (by omega), e_gT tabL_2 (by omega) (by omega)]
      rw [← hx] at hy
      have a1 : tab 2 (4 * q + 1) - i32 1 = i32 (KT.getD q (9, 0, 0, 0)).2.1 := t1
      have a2 : tab 2 (4 * q + 2) - i32 1 = i32 (KT.getD q (9, 0, 0, 0)).2.2.1 := t2
      have a3 : tab 2 (4 * q + 3) - i32 1 = i32 (KT.getD q (9, 0, 0, 0)).2.2.2 := t3
      rw [a1, a2, a3]
      exact hy
    by_cases hc : (KT.getD q (9, 0, 0, 0)).1 = κ
    · have h2 := kt_ok hκ hq' hc
      have hg := kf_g κ q
      obtain ⟨υ, e2, f2, m2⟩ := c_write (σ := τ) (v := 1) (by rw [hg.1]; exact hk.2.1) m h2.1 h2.2.1 (by rw [hg.1]; exact h2.2.2.1)
      have m2' : CG υ 2 (kf κ (q + 1)) := by
        show CG υ 2 (if (KT.getD q (9, 0, 0, 0)).1 = κ then _ else _)
        rw [if_pos hc]; exact m2
      obtain ⟨s', n', b1, b2, b3⟩ := step υ (f.trans f2) m2'
      refine ⟨s', n', b1, ?_, b3⟩
      refine hstart ?_ b2
      have e2' : f_X6_write τ 2 (i32 (KT.getD q (9, 0, 0, 0)).2.1) (i32 (KT.getD q (9, 0, 0, 0)).2.2.1) (i32 (KT.getD q (9, 0, 0, 0)).2.2.2) 1 = some υ := e2
      rw [if_pos (by rw [hc]), e2', e_bs]
    · have m2' : CG τ 2 (kf κ (q + 1)) := by
        show CG τ 2 (if (KT.getD q (9, 0, 0, 0)).1 = κ then _ else _)
        rw [if_neg hc]; exact m
      obtain ⟨s', n', b1, b2, b3⟩ := step τ f m2'
      refine ⟨s', n', b1, ?_, b3⟩
      refine hstart ?_ b2
      rw [if_neg (i_ne hc (by omega) (by omega))]
/-! the reference's kinds -/
/-- weights, one by one, where all is cleared -/
theorem r_weighs {n w : Nat} (hz : RZ σ n) {x0 x1 x2 x3 x4 x5 : Int32} (h0 : x0 = i32 (dgt w 0)) (h1 : x1 = i32 (dgt w 1)) (h2 : x2 = i32 (dgt w 2)) (h3 : x3 = i32 (dgt w 3)) (h4 : x4 = i32 (dgt w 4)) (h5 : x5 = i32 (dgt w 5)) : ∃ τ, f_X11_weighs σ x0 x1 x2 x3 x4 x5 = some τ ∧ FG σ τ ∧ RB τ 307 0 (GW n w, fun _ _ => 0) ∧ τ.1 306 = σ.1 306 := by
  unfold f_X11_weighs
  rw [i32_1, i32_2, i32_3, i32_4, i32_5, i32_6, e_pI ln_307 (by omega) (by omega), e_pI ln_307 (by omega) (by omega), e_pI ln_307 (by omega) (by omega), e_pI ln_307 (by omega) (by omega), e_pI ln_307 (by omega) (by omega), e_pI ln_307 (by omega) (by omega)]
  refine ⟨_, rfl, ((((FG.row.trans FG.row).trans FG.row).trans FG.row).trans FG.row).trans FG.row, RB.weights ?_ (fun i hi => ?_) (fun k k1 k2 => ?_), ?_⟩
  · simp only [wI_1]
    exact hz.1
  · simp only [wI_1]
    rcases (show i = 0 ∨ i = 1 ∨ i = 2 ∨ i = 3 ∨ i = 4 ∨ i = 5 by omega) with q | q | q | q | q | q
    · subst q; exact h0
    · subst q; exact h1
    · subst q; exact h2
    · subst q; exact h3
    · subst q; exact h4
    · subst q; exact h5
  · simp only [wI_1]
    rw [if_neg (by omega), if_neg (by omega), if_neg (by omega), if_neg (by omega), if_neg (by omega), if_neg (by omega)]
    exact hz.2 k (by omega) k2
  · funext y
    simp only [wI_1]
    rw [if_neg (by omega), if_neg (by omega), if_neg (by omega), if_neg (by omega), if_neg (by omega), if_neg (by omega)]
theorem r_plain : ∃ τ, f_X11_plain σ = some τ ∧ FG σ τ ∧ τ.1 306 9 = 0 ∧ RB τ 307 0 (kf 0 8, fun _ _ => 0) := by
  unfold f_X11_plain
  obtain ⟨σ1, e1, f1, z1, n1⟩ := r_clears (σ := σ) (n := 3)
  have e1' : f_X11_clears σ 3 = some σ1 := e1
  rw [e1', e_bs, i32_1, i32_2, i32_3, e_pI ln_307 (by omega) (by omega), e_pI ln_307 (by omega) (by omega), e_pI ln_307 (by omega) (by omega)]
  have rb : RB (wI (wI (wI σ1 307 1 (i32 1)) 307 2 (i32 1)) 307 3 (i32 2)) 307 0 (GW 3 37, fun _ _ => 0) := by
    refine RB.weights ?_ (fun i hi => ?_) (fun k k1 k2 => ?_)
    · simp only [wI_1]
      exact z1.1
    · simp only [wI_1]
      rcases (show i = 0 ∨ i = 1 ∨ i = 2 ∨ i = 3 ∨ i = 4 ∨ i = 5 by omega) with q | q | q | q | q | q
      · subst q; rfl
      · subst q; rfl
      · subst q; rfl
      · subst q; exact (z1.2 4 (by omega) (by omega)).trans (by decide)
      · subst q; exact (z1.2 5 (by omega) (by omega)).trans (by decide)
      · subst q; exact (z1.2 6 (by omega) (by omega)).trans (by decide)
    · simp only [wI_1]
      rw [if_neg (by omega), if_neg (by omega), if_neg (by omega)]
      exact z1.2 k (by omega) k2
  have f2 := ((f1.trans FG.row).trans FG.row).trans (FG.row (σ := wI (wI σ1 307 1 (i32 1)) 307 2 (i32 1)) (y := 3) (v := i32 2))
  generalize wI (wI (wI σ1 307 1 (i32 1)) 307 2 (i32 1)) 307 3 (i32 2) = σ4 at rb f2
  obtain ⟨σ5, e5, f5, rb5, n5⟩ := r_putsTail (σ := σ4) (j := 1) (i := 0) (k := 2) (v := 1) rb (by omega) (by omega) (by omega)
  have e5' : f_X11_putsTail σ4 (i32 1) 0 (i32 2) (i32 1) = some σ5 := e5
  rw [e5', e_bs]
  exact ⟨σ5, rfl, f2.trans f5, n5, rb5⟩
theorem ok_2 : Ok_2 II := by
  intro c σ x hc ⟨S, ok, h, hr⟩
  have f0 : SR σ (wI σ 306 0 0) := SR.fld (by omega)
  have ex := fun τ : Mem => r_in (σ := τ) (x := x) (l := 0) (u := 3) ⟨by omega, by omega⟩ ⟨by omega, by omega⟩
  unfold f_X10_kind
  by_cases hx : 0 ≤ x.toInt ∧ x.toInt ≤ 3
  · have hxi := i32_of hx.1
    have hκ : x.toInt.toNat < 4 := by omega
    generalize x.toInt.toNat = κ at hxi hκ
    subst hxi
    rw [if_neg (show ¬ i32 κ < 0 from i_nlt (b := 0) (by omega) (by omega)), tabL_0, if_pos (show i32 κ < Int32.ofNat 4 from i_lt (b := 4) hκ (by omega))]
    obtain ⟨σ2, e3, a2, a3, a4, a5, a6⟩ := c_beginGroup h ok
    obtain ⟨σ3, e4, f4, m4⟩ := c_takeKind (σ := σ2) hκ
    obtain ⟨σ4, e5, i5, hi5⟩ := c_newGroup (S := (aX S, aT S, psh (aX S) (aA S), aI S, aP S, aF S)) hc ok.1.1 (kf_ok hκ 8 (by omega)) a2 a3 a5 f4 m4
    rw [e3, e_bs, e4, e_bs, e5, e_bs]
    have hr4 := (hr.hi (a6.trans hi5)).told
    have f4' : LO σ4 (wI σ4 306 0 0) := LO.row (by omega)
    obtain ⟨σ7, e7, r7, l7, _, _⟩ := r_keep2 hr4 ok
    have hmade : ∃ τ, (if i32 κ = 0 then ((f_X11_plain σ7).bind (fun (σ20 : Mem) => some (true, σ20))) else ((if i32 κ = 1 then (some 5) else (some 6) : Option Int32).bind (fun (z4 : Int32) => j_X11_kind_46 (i32 κ) σ7 z4)) : Option (Bool × Mem)) = some (true, τ) ∧ FG σ7 τ ∧ τ.1 306 9 = 0 ∧ RB τ 307 0 (kf κ 8, fun _ _ => 0) := by
      rcases (show κ = 0 ∨ κ = 1 ∨ κ = 2 ∨ κ = 3 by omega) with q | q | q | q
      · subst q
        obtain ⟨τ, e, f, n9, rb⟩ := r_plain (σ := σ7)
        rw [if_pos (by decide), e, e_bs]
        exact ⟨τ, rfl, f, n9, rb⟩
      · subst q
        obtain ⟨τ1, e1, f1, z1, n1⟩ := r_clears (σ := σ7) (n := 5)
        obtain ⟨τ2, e2, f2, rb2, s2⟩ := r_weighs (w := 997) z1 (x0 := 1) (x1 := 1) (x2 := 2) (x3 := 3) (x4 := 3) (x5 := 0) (by decide) (by decide) (by decide) (by decide) (by decide) (by decide)
        obtain ⟨τ3, e3, f3, rb3, n3⟩ := r_putsTail (σ := τ2) (j := 1) (i := 0) (k := 2) (v := 1) rb2 (by omega) (by omega) (by omega)
        obtain ⟨τ4, e4, f4, rb4, n4⟩ := r_putsTail (σ := τ3) (j := 2) (i := 0) (k := 3) (v := 1) rb3 (by omega) (by omega) (by omega)
        obtain ⟨τ5, e5, f5, rb5, n5⟩ := r_putsTail (σ := τ4) (j := 2) (i := 1) (k := 4) (v := 1) rb4 (by omega) (by omega) (by omega)
        have e1' : f_X11_clears σ7 5 = some τ1 := e1
        have e3' : f_X11_putsTail τ2 1 0 2 1 = some τ3 := e3
        have e4' : f_X11_putsTail τ3 2 0 3 1 = some τ4 := e4
        have e5' : f_X11_putsTail τ4 2 1 4 1 = some τ5 := e5
        rw [if_neg (by decide), if_pos (by decide), e_bs]
        unfold j_X11_kind_46
        rw [e1', e_bs, if_pos (by decide), e2, e_bs, e_bs]
        unfold j_X11_kind_64
        rw [if_neg (by decide), e_bs]
        unfold j_X11_kind_79
        rw [if_neg (by decide), e_bs]
        unfold j_X11_kind_94
        rw [if_pos (by decide), e3', e_bs, e4', e_bs, e5', e_bs, e_bs]
        unfold j_X11_kind_123
        rw [if_neg (by decide)]
        exact ⟨τ5, rfl, f1.trans (f2.trans (f3.trans (f4.trans f5))), n5, rb5⟩
      · subst q
        obtain ⟨τ1, e1, f1, z1, n1⟩ := r_clears (σ := σ7) (n := 6)
        obtain ⟨τ2, e2, f2, rb2, s2⟩ := r_weighs (w := 3733) z1 (x0 := 1) (x1 := 1) (x2 := 1) (x3 := 2) (x4 := 2) (x5 := 3) (by decide) (by decide) (by decide) (by decide) (by decide) (by decide)
        obtain ⟨τ3, e3, f3, rb3, n3⟩ := r_putsTail (σ := τ2) (j := 2) (i := 0) (k := 3) (v := 1) rb2 (by omega) (by omega) (by omega)
        obtain ⟨τ4, e4, f4, rb4, n4⟩ := r_putsTail (σ := τ3) (j := 2) (i := 1) (k := 4) (v := 1) rb3 (by omega) (by omega) (by omega)
        obtain ⟨τ5, e5, f5, rb5, n5⟩ := r_putsTail (σ := τ4) (j := 3) (i := 1) (k := 5) (v := 1) rb4 (by omega) (by omega) (by omega)
        obtain ⟨τ6, e6, f6, rb6, n6⟩ := r_putsTail (σ := τ5) (j := 4) (i := 0) (k := 5) (v := 1) rb5 (by omega) (by omega) (by omega)
        have e1' : f_X11_clears σ7 6 = some τ1 := e1
        have e3' : f_X11_putsTail τ2 2 0 3 1 = some τ3 := e3
        have e4' : f_X11_putsTail τ3 2 1 4 1 = some τ4 := e4
        have e5' : f_X11_putsTail τ4 3 1 5 1 = some τ5 := e5
        have e6' : f_X11_putsTail τ5 4 0 5 1 = some τ6 := e6
        rw [if_neg (by decide), if_neg (by decide), e_bs]
        unfold j_X11_kind_46
        rw [e1', e_bs, if_neg (by decide), e_bs]
        unfold j_X11_kind_64
        rw [if_pos (by decide), e2, e_bs, e_bs]
        unfold j_X11_kind_79
        rw [if_neg (by decide), e_bs]
        unfold j_X11_kind_94
        rw [if_neg (by decide), e_bs]
        unfold j_X11_kind_123
        rw [if_pos (by decide), e3', e_bs, e4', e_bs, e5', e_bs, e6', e_bs]
        exact ⟨τ6, rfl, f1.trans (f2.trans (f3.trans (f4.trans (f5.trans f6)))), n6, rb6⟩
      · subst q
        obtain ⟨τ1, e1, f1, z1, n1⟩ := r_clears (σ := σ7) (n := 6)
        obtain ⟨τ2, e2, f2, rb2, s2⟩ := r_weighs (w := 1365) z1 (x0 := 1) (x1 := 1) (x2 := 1) (x3 := 1) (x4 := 1) (x5 := 1) (by decide) (by decide) (by decide) (by decide) (by decide) (by decide)
        have e1' : f_X11_clears σ7 6 = some τ1 := e1
        rw [if_neg (by decide), if_neg (by decide), e_bs]
        unfold j_X11_kind_46
        rw [e1', e_bs, if_neg (by decide), e_bs]
        unfold j_X11_kind_64
        rw [if_neg (by decide), e_bs]
        unfold j_X11_kind_79
        rw [if_pos (by decide), e2, e_bs, e_bs]
        unfold j_X11_kind_94
        rw [if_neg (by decide), e_bs]
        unfold j_X11_kind_123
        rw [if_neg (by decide)]
        exact ⟨τ2, rfl, f1.trans f2, by rw [s2]; exact n1, rb2⟩
    obtain ⟨τ, e9, f9, n9, rb9⟩ := hmade
    refine ⟨true, σ4, τ, rfl, ?_, fin_new ok (kf_ok hκ 8 (by omega)) i5 (r7.newX f9 n9 rb9) (f4'.trans (l7.trans f9.lo))⟩
    unfold f_X11_kind
    rw [e_pF, show (0 : Int64) = oi 0 from rfl, show (3 : Int64) = oi 3 from rfl, ex, e_bs, decide_eq_true hx, if_pos rfl, e7, e_bs, e9]
  · refine ⟨false, σ, wI σ 306 0 0, ?_, ?_, fin_q ok h hr.told f0.lo⟩
    · by_cases h1 : x < 0
      · rw [if_pos h1]
      · have h1' : ¬ x.toInt < 0 := fun z => h1 ((lt32 (k := 0) (by omega)).mpr z)
        rw [if_neg h1, tabL_0, if_neg (fun z => by
          have := (lt32 (k := 4) (by omega)).mp z
          omega)]
    · unfold f_X11_kind
      rw [e_pF, show (0 : Int64) = oi 0 from rfl, show (3 : Int64) = oi 3 from rfl, ex, e_bs, decide_eq_false hx, if_neg (by decide)]
end KND
