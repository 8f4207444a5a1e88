/-! the class's search of alike ends: its small steps -/
section SRT
variable {σ : Mem} {G : GD}
/-- rows of the search alone have changed -/
abbrev OK8 (σ τ : Mem) : Prop := OL (fun x => 80 ≤ x ∧ x ≤ 103) σ τ
/-- gaps that can be reckoned -/
def GGp (σ : Mem) : Prop := ∀ k, k < 6 → ∃ (G : GD) (N : List (Nat × Int)), GS σ (104 + 4 * k) N ∧ NOK G N
theorem GapOK.gg {A Y : Nat → Int} (h : GapOK G σ A Y) : GGp σ := fun k hk => by
  obtain ⟨N, hS, hN, _⟩ := h k hk
  exact ⟨G, N, hS, hN⟩
theorem GGp.keep {τ : Mem} (h : GGp σ) (o : OK8 σ τ) : GGp τ := fun k hk => by
  obtain ⟨G, N, hS, hN⟩ := h k hk
  refine ⟨G, N, ?_, hN⟩
  unfold GS
  rw [o.1, o.2 (104 + 4 * k + 2) (by omega)]
  exact hS
theorem t_value {a t : Nat} {N : List (Nat × Int)} (sp : SP a) (ht : ln t = 64) (hS : GS σ a N) (hN : NOK G N) : ∃ v, f_X9_value σ a t = some v := by
  have hl := hN.len
  obtain ⟨r1, r2, r3, l1, l2, l3⟩ := sp
  unfold f_X9_value
  obtain ⟨v, e, _⟩ := cnt_inv (body := fun (z2 : (Int64 × Int32)) => l_X9_value_5 σ a t z2.1 z2.2) (P := fun _ _ => True) (Q := fun _ => True) (a := 0) (b := N.length) (s := (0 : Int64)) (Nat.zero_le _) trivial (by
    intro q s _ hq _
    left
    show ∃ s', l_X9_value_5 σ a t s (i32 q) = _ ∧ _
    unfold l_X9_value_5
    have hg := List.getElem?_eq_getElem hq
    have hmem := List.getElem_mem hq
    generalize N[q] = p at hg hmem
    have he := hS.2 q p hg
    have hd := (hN.1 p hmem).1
    have h3 : ∀ u, u < 12 → dk p.1 u ≤ 3 := fun u hu => by have := (hd.1 u hu).1; omega
    have hpl := pl_lt (d := dk p.1) 12 (Nat.le_refl _) h3
    have hpl2 : pl (dk p.1) 12 < 64 ^ 3 := Nat.lt_of_lt_of_le hpl (Nat.pow_le_pow_right (by omega) hd.2)
    rw [e_gF, hS.1, if_neg (i_nle hq (by omega)), r3, e_gI l3 (by omega) (by omega), he.2.2, r2, e_gL l2 (by omega) (by omega), he.2.1, i_f0, e_gL ht (by omega) (by omega), i_f1 (by omega), e_gL ht (by omega) (by omega), i_f2 (by omega), e_gL ht (by omega) (by omega), e_bd, i32_1, i32_add]
    exact ⟨_, rfl, trivial⟩) (by
    intro s _
    show ∃ x, l_X9_value_5 σ a t s (i32 N.length) = _ ∧ _
    unfold l_X9_value_5
    rw [e_gF, hS.1, if_pos (i_le (Nat.le_refl _) (by omega))]
    exact ⟨_, rfl, trivial⟩)
  exact ⟨v, e⟩
theorem t_gap (h : GGp σ) {k : Nat} (hk : k < 6) : ∃ v, f_X9_value σ (104 + 4 * k) 100 = some v := by
  obtain ⟨G, N, hS, hN⟩ := h k hk
  exact t_value (SP_gap hk).1 ln_100 hS hN
theorem t_setU {i : Nat} {y : Int64} (hi : i < 6) : ∃ τ, f_X7_setU σ (i32 i) y = some τ ∧ OK8 σ τ := by
  obtain ⟨τ, e, o, _⟩ := c_setU (G := ((0, fun _ => 0, fun _ _ _ => 0) : GD)) (σ := σ) (i := i) (y := y.toInt) (u := fun _ => 0) (p := fun _ => False) hi (fun q => absurd (show (0 : Nat) = 1 from q) (by decide)) ⟨fun _ _ q => q.elim, fun _ => 0, fun _ _ => rfl, fun _ _ q => q.2.elim⟩
  rw [show oi y.toInt = y from Int64.ofInt_toInt y] at e
  exact ⟨τ, e, o.mono (fun x hx => by omega)⟩
theorem t_putU : ∃ τ, f_X7_putU σ 0 = some τ ∧ OK8 σ τ := by
  obtain ⟨τ, e, o, _⟩ := c_putU (G := ((0, fun _ => 0, fun _ _ _ => 0) : GD)) (σ := σ) (y := 0) (by unfold two64ok; omega)
  exact ⟨τ, e, o.mono (fun x hx => by omega)⟩
theorem t_copyGaps {p q x : Nat} (h : GGp σ) (hp : p ≤ 6) (hq : q ≤ 6) (hx : x = 101 ∨ x = 102) : ∃ τ, f_X7_copyGaps σ (i32 p) (i32 q) x = some τ ∧ OK8 σ τ := by
  have lx : ln x = 6 := by rcases hx with rfl | rfl; exact ln_101; exact ln_102
  obtain ⟨σ1, e1, o1, _⟩ := fillL (σ := σ) (a := x) (v := 0) lx (by omega)
  have O1 : OK8 σ σ1 := o1.mono (fun y hy => by omega)
  unfold f_X7_copyGaps
  rw [e1, e_bs]
  refine cnt_inv (body := fun (z3 : (Mem × Int32)) => l_X7_copyGaps_8 (i32 p) (i32 q) x z3.1 z3.2) (P := fun _ τ => OK8 σ τ) (a := 0) (b := q) (by omega) O1 ?_ ?_
  · intro i τ _ h2 o
    show (∃ s', l_X7_copyGaps_8 (i32 p) (i32 q) x τ (i32 i) = _ ∧ _) ∨ ∃ x', l_X7_copyGaps_8 (i32 p) (i32 q) x τ (i32 i) = _ ∧ _
    unfold l_X7_copyGaps_8
    rw [if_neg (i_nle h2 (by omega)), i32_add, i32_6]
    by_cases h6 : 6 ≤ p + i
    · right
      rw [if_pos (i_le h6 (by omega))]
      exact ⟨_, rfl, o⟩
    · left
      obtain ⟨v, ev⟩ := t_gap (h.keep o) (k := p + i) (by omega)
      rw [if_neg (i_nle (by omega) (by omega)), e_gR ln_99 (by omega) (by omega), (SP_gap (show p + i < 6 by omega)).2, ev, e_bs, e_pL lx (by omega) (by omega), i32_1, i32_add]
      exact ⟨_, rfl, o.trans (OL.wL (P := fun y => 80 ≤ y ∧ y ≤ 103) (by omega))⟩
  · intro τ o
    show ∃ x', l_X7_copyGaps_8 (i32 p) (i32 q) x τ (i32 q) = _ ∧ _
    unfold l_X7_copyGaps_8
    rw [if_pos (i_le (Nat.le_refl _) (by omega))]
    exact ⟨_, rfl, o⟩
theorem FLa.ok81 {τ : Mem} (h : FLa 81 σ τ) : OK8 σ τ := ⟨h.1, fun x hx => h.2 x (by omega)⟩
theorem FLa.ok90 {τ : Mem} (h : FLa 90 σ τ) : OK8 σ τ := ⟨h.1, fun x hx => h.2 x (by omega)⟩
theorem t_turnsSub {m : Nat} (hm : m ≤ 6) (h9 : σ.1 80 9 = i32 m) : ∃ τ, loopO (fun (z22 : (Mem × Int32)) => l_X7_findTurns_71 z22.1 z22.2) (σ, i32 0) = some τ ∧ OK8 σ τ := by
  refine cnt_inv (body := fun (z22 : (Mem × Int32)) => l_X7_findTurns_71 z22.1 z22.2) (P := fun _ τ => OK8 σ τ) (a := 0) (b := m) (by omega) OL.refl ?_ ?_
  · intro i τ _ h2 o
    left
    have g9 : τ.1 80 9 = i32 m := by rw [o.1]; exact h9
    show ∃ s', l_X7_findTurns_71 τ (i32 i) = _ ∧ _
    unfold l_X7_findTurns_71
    rw [e_gF, g9, if_neg (i_nle h2 (by omega)), e_gL ln_101 (by omega) (by omega), e_gL ln_102 (by omega) (by omega), e_pL ln_101 (by omega) (by omega), i32_1, i32_add]
    exact ⟨_, rfl, o.trans (OL.wL (P := fun y => 80 ≤ y ∧ y ≤ 103) (by omega))⟩
  · intro τ o
    have g9 : τ.1 80 9 = i32 m := by rw [o.1]; exact h9
    show ∃ x', l_X7_findTurns_71 τ (i32 m) = _ ∧ _
    unfold l_X7_findTurns_71
    rw [e_gF, g9, if_pos (i_le (Nat.le_refl _) (by omega))]
    exact ⟨_, rfl, o⟩
theorem t_findTurns {m t : Nat} (h : GGp σ) (hmt : m + t ≤ 6) (h8 : σ.1 80 8 = i32 m) (h9 : σ.1 80 9 = i32 t) : ∃ τ, f_X7_findTurns σ = some τ ∧ OK8 (wI σ 81 0 (i32 (t + m))) τ := by
  unfold f_X7_findTurns
  obtain ⟨σ1, E, e1, k1, k2, _, _⟩ := c_clear (σ := σ) (a := 81) (n := t + m) LA_81 (by omega)
  rw [e_gF, e_gF, h8, h9, i32_add, e1, e_bs]
  have O1 : OK8 (wI σ 81 0 (i32 (t + m))) σ1 := ⟨k1, fun x hx => k2 x (by omega)⟩
  have gg : GGp (wI σ 81 0 (i32 (t + m))) := fun k hk => by
    obtain ⟨G, N, hS, hN⟩ := h k hk
    refine ⟨G, N, ?_, hN⟩
    unfold GS
    rw [show (wI σ 81 0 (i32 (t + m))).1 (104 + 4 * k) = σ.1 (104 + 4 * k) from by funext y; rw [wI_1, if_neg (by omega)], show (wI σ 81 0 (i32 (t + m))).1 (104 + 4 * k + 1) = σ.1 (104 + 4 * k + 1) from by funext y; rw [wI_1, if_neg (by omega)], show (wI σ 81 0 (i32 (t + m))).1 (104 + 4 * k + 3) = σ.1 (104 + 4 * k + 3) from by funext y; rw [wI_1, if_neg (by omega)]]
    exact hS
  have w8 : (wI σ 81 0 (i32 (t + m))).1 80 8 = i32 m := by rw [wI_1, if_neg (by omega)]; exact h8
  have w9 : (wI σ 81 0 (i32 (t + m))).1 80 9 = i32 t := by rw [wI_1, if_neg (by omega)]; exact h9
  have w81 : (wI σ 81 0 (i32 (t + m))).1 81 0 = i32 (t + m) := by rw [wI_1, if_pos ⟨rfl, rfl⟩]
  generalize wI σ 81 0 (i32 (t + m)) = ρ at O1 gg w8 w9 w81 ⊢
  refine cnt_inv (body := fun (z5 : (Mem × Int32)) => l_X7_findTurns_18 z5.1 z5.2) (P := fun _ τ => OK8 ρ τ) (a := 0) (b := m) (by omega) O1 ?_ ?_
  · intro i τ _ h2 o
    left
    have q8 : ∀ υ : Mem, OK8 ρ υ → υ.1 80 8 = i32 m := fun υ ho => by rw [ho.1]; exact w8
    have q9 : ∀ υ : Mem, OK8 ρ υ → υ.1 80 9 = i32 t := fun υ ho => by rw [ho.1]; exact w9
    obtain ⟨τ1, a1, p1⟩ := t_putU (σ := τ)
    have P1 := o.trans p1
    obtain ⟨τ2, a2, p2⟩ := t_copyGaps (σ := τ1) (p := m) (q := t) (x := 102) (gg.keep P1) (by omega) (by omega) (by omega)
    have P2 := P1.trans p2
    obtain ⟨τ3, a3, p3⟩ := t_setU (σ := τ2) (i := i) (y := 1) (by omega)
    have P3 := P2.trans p3
    obtain ⟨τ4, a4, p4⟩ := t_copyGaps (σ := τ3) (p := m) (q := t) (x := 101) (gg.keep P3) (by omega) (by omega) (by omega)
    have P4 := P3.trans p4
    obtain ⟨τ5, a5, p5⟩ := t_turnsSub (σ := τ4) (m := t) (by omega) (q9 _ P4)
    have P5 := P4.trans p5
    have a5' : loopO (fun (z22 : (Mem × Int32)) => l_X7_findTurns_71 z22.1 z22.2) (τ4, 0) = some τ5 := a5
    have P6 : OK8 ρ (wL τ5 101 (t + i) 1) := P5.trans (OL.wL (P := fun y => 80 ≤ y ∧ y ≤ 103) (by omega))
    obtain ⟨τ7, a7, p7⟩ := t_insert (σ := wL τ5 101 (t + i) 1) (a := 81) (n := t + m) (x := 101) LA_81 (by omega) (by rw [P6.1]; exact w81) ln_101
    show ∃ s', l_X7_findTurns_18 τ (i32 i) = _ ∧ _
    unfold l_X7_findTurns_18
    rw [e_gF, q8 _ o, if_neg (i_nle h2 (by omega)), a1, e_bs, e_gF, e_gF, q8 _ P1, q9 _ P1, a2, e_bs, a3, e_bs, e_gF, e_gF, q8 _ P3, q9 _ P3, a4, e_bs, a5', e_bs]
    unfold j_X7_findTurns_100
    rw [e_gF, q9 _ P5, i32_6, i32_add, if_neg (i_nle (by omega) (by omega)), e_gF, q9 _ P5, i32_add, e_pL ln_101 (by omega) (by omega), e_bs]
    unfold j_X7_findTurns_123
    rw [a7, e_bs, i32_1, i32_add]
    exact ⟨_, rfl, P6.trans p7.ok81⟩
  · intro τ o
    show ∃ x', l_X7_findTurns_18 τ (i32 m) = _ ∧ _
    unfold l_X7_findTurns_18
    rw [e_gF, show τ.1 80 8 = i32 m from by rw [o.1]; exact w8, if_pos (i_le (Nat.le_refl _) (by omega))]
    exact ⟨_, rfl, o⟩
end SRT
