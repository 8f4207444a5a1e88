/-! the class's search of alike ends: turning and shifting -/
section SHF2
variable {σ : Mem} {G : GD}
theorem t_turnWeightTwo {m t : Nat} (h : GGp σ) (hmt : m + t ≤ 6) (h8 : σ.1 80 8 = i32 m) (h9 : σ.1 80 9 = i32 t) (h81 : σ.1 81 0 = i32 (t + m)) : ∃ b τ, f_X7_turnWeightTwo σ = some (b, τ) ∧ OK8 σ τ := by
  have q8 : ∀ υ : Mem, OK8 σ υ → υ.1 80 8 = i32 m := fun υ ho => by rw [ho.1]; exact h8
  have q9 : ∀ υ : Mem, OK8 σ υ → υ.1 80 9 = i32 t := fun υ ho => by rw [ho.1]; exact h9
  unfold f_X7_turnWeightTwo
  obtain ⟨τ1, a1, p1⟩ := t_putU (σ := σ)
  obtain ⟨τ2, a2, p2⟩ := t_copyGaps (σ := τ1) (p := m) (q := t) (x := 101) (h.keep p1) (by omega) (by omega) (by omega)
  have P2 := p1.trans p2
  obtain ⟨b, τ3, a3, p3⟩ := t_reduce (σ := τ2) (a := 81) (n := t + m) (x := 101) LA_81 (by omega) (by rw [P2.1]; exact h81) ln_101 (by omega)
  have P3 : OK8 σ τ3 := P2.trans ⟨p3.1, fun x hx => p3.2 x (by omega)⟩
  rw [a1, e_bs, e_gF, e_gF, q8 _ p1, q9 _ p1, a2, e_bs, a3, e_bq]
  obtain ⟨x, e, hx⟩ := loop_inv (body := fun (z14 : Int32) => l_X7_turnWeightTwo_35 τ3 z14) (fun k z => ∃ i, i ≤ t ∧ k = t - i ∧ z = i32 i) (fun x => x = Sum.inl () ∨ x = Sum.inr (false, τ3)) (by
    rintro k z ⟨i, hi, rfl, rfl⟩
    by_cases hit : i = t
    · right
      subst hit
      refine ⟨_, ?_, Or.inl rfl⟩
      unfold l_X7_turnWeightTwo_35
      rw [e_gF, q9 _ P3, if_pos (i_le (Nat.le_refl _) (by omega))]
    · by_cases hz : τ3.2 101 i = 0
      · left
        refine ⟨i32 (i + 1), t - (i + 1), by omega, ?_, i + 1, by omega, rfl, rfl⟩
        unfold l_X7_turnWeightTwo_35
        rw [e_gF, q9 _ P3, if_neg (i_nle (by omega) (by omega)), e_gL ln_101 (by omega) (by omega), if_pos hz, i32_1, i32_add]
      · right
        refine ⟨_, ?_, Or.inr rfl⟩
        unfold l_X7_turnWeightTwo_35
        rw [e_gF, q9 _ P3, if_neg (i_nle (by omega) (by omega)), e_gL ln_101 (by omega) (by omega), if_neg hz]) t 0 ⟨0, by omega, rfl, rfl⟩
  rw [e, e_bs]
  rcases hx with rfl | rfl
  · show ∃ b τ, j_X7_turnWeightTwo_62 τ3 = some (b, τ) ∧ _
    unfold j_X7_turnWeightTwo_62
    obtain ⟨y, e2, b, τ4, rfl, P4⟩ := cnt_inv (body := fun (z8 : (Mem × Int32)) => l_X7_turnWeightTwo_64 z8.1 z8.2) (P := fun _ τ => OK8 σ τ) (Q := fun y => ∃ b τ, y = (b, τ) ∧ OK8 σ τ) (a := 0) (b := m) (s := τ3) (by omega) P3 (by
      intro i τ _ h2 o
      left
      obtain ⟨τ5, a5, p5⟩ := t_setU (σ := τ) (i := i) (y := τ.2 101 (t + i)) (by omega)
      show ∃ s', l_X7_turnWeightTwo_64 τ (i32 i) = _ ∧ _
      unfold l_X7_turnWeightTwo_64
      rw [e_gF, q8 _ o, if_neg (i_nle h2 (by omega)), e_gF, q9 _ o, i32_add, i32_6, if_neg (i_nle (by omega) (by omega)), e_gF, q9 _ o, i32_add, e_gL ln_101 (by omega) (by omega), a5, e_bs, i32_1, i32_add]
      exact ⟨_, rfl, o.trans p5⟩) (by
      intro τ o
      show ∃ x', l_X7_turnWeightTwo_64 τ (i32 m) = _ ∧ _
      unfold l_X7_turnWeightTwo_64
      rw [e_gF, q8 _ o, if_pos (i_le (Nat.le_refl _) (by omega))]
      exact ⟨_, rfl, _, _, rfl, o⟩)
    exact ⟨b, τ4, e2, P4⟩
  · exact ⟨false, τ3, rfl, P3⟩
theorem t_insertShift {m t s : Nat} (h : GGp σ) (hmt : m + t + s ≤ 6) (h8 : σ.1 80 8 = i32 m) (h9 : σ.1 80 9 = i32 t) (h10 : σ.1 80 10 = i32 s) (h90 : σ.1 90 0 = i32 s) : ∃ τ, f_X7_insertShift σ = some τ ∧ OK8 σ τ := by
  unfold f_X7_insertShift
  obtain ⟨τ2, a2, p2⟩ := t_copyGaps (σ := σ) (p := m + t) (q := s) (x := 101) h (by omega) (by omega) (by omega)
  obtain ⟨τ7, a7, p7⟩ := t_insert (σ := τ2) (a := 90) (n := s) (x := 101) LA_90 (by omega) (by rw [p2.1]; exact h90) ln_101
  rw [e_gF, e_gF, e_gF, h8, h9, h10, i32_add, a2, e_bs, a7, e_bs]
  exact ⟨_, rfl, p2.trans p7.ok90⟩
theorem e_82 {α : Type} {f : Nat → Option α} {c : Nat} (hc : c < 6) : gR 82 (i32 c) f = f (83 + c) := by
  have := e_gRL (f := f) LA_81 hc
  rw [LA_81.1] at this
  exact this
theorem t_findShifts {m t s : Nat} (h : GGp σ) (hmt : m + t + s ≤ 6) (h8 : σ.1 80 8 = i32 m) (h9 : σ.1 80 9 = i32 t) (h10 : σ.1 80 10 = i32 s) (h81 : σ.1 81 0 = i32 (t + m)) : ∃ τ, f_X7_findShifts σ = some τ ∧ OK8 (wI σ 90 0 (i32 s)) τ := by
  unfold f_X7_findShifts
  obtain ⟨σ1, E, e1, k1, k2, _, _⟩ := c_clear (σ := σ) (a := 90) (n := s) LA_90 (by omega)
  rw [e_gF, h10, e1, e_bs]
  have O1 : OK8 (wI σ 90 0 (i32 s)) σ1 := ⟨k1, fun x hx => k2 x (by omega)⟩
  have gg : GGp (wI σ 90 0 (i32 s)) := fun k hk => by
    obtain ⟨G, N, hS, hN⟩ := h k hk
    refine ⟨G, N, ?_, hN⟩
    unfold GS
    rw [show (wI σ 90 0 (i32 s)).1 (104 + 4 * k) = σ.1 (104 + 4 * k) from by funext y; rw [wI_1, if_neg (by omega)], show (wI σ 90 0 (i32 s)).1 (104 + 4 * k + 1) = σ.1 (104 + 4 * k + 1) from by funext y; rw [wI_1, if_neg (by omega)], show (wI σ 90 0 (i32 s)).1 (104 + 4 * k + 3) = σ.1 (104 + 4 * k + 3) from by funext y; rw [wI_1, if_neg (by omega)]]
    exact hS
  have w8 : (wI σ 90 0 (i32 s)).1 80 8 = i32 m := by rw [wI_1, if_neg (by omega)]; exact h8
  have w9 : (wI σ 90 0 (i32 s)).1 80 9 = i32 t := by rw [wI_1, if_neg (by omega)]; exact h9
  have w10 : (wI σ 90 0 (i32 s)).1 80 10 = i32 s := by rw [wI_1, if_neg (by omega)]; exact h10
  have w81 : (wI σ 90 0 (i32 s)).1 81 0 = i32 (t + m) := by rw [wI_1, if_neg (by omega)]; exact h81
  have w90 : (wI σ 90 0 (i32 s)).1 90 0 = i32 s := by rw [wI_1, if_pos ⟨rfl, rfl⟩]
  generalize wI σ 90 0 (i32 s) = ρ at O1 gg w8 w9 w10 w81 w90 ⊢
  have q8 : ∀ υ : Mem, OK8 ρ υ → υ.1 80 8 = i32 m := fun υ ho => by rw [ho.1]; exact w8
  have q9 : ∀ υ : Mem, OK8 ρ υ → υ.1 80 9 = i32 t := fun υ ho => by rw [ho.1]; exact w9
  have q10 : ∀ υ : Mem, OK8 ρ υ → υ.1 80 10 = i32 s := fun υ ho => by rw [ho.1]; exact w10
  have q81 : ∀ υ : Mem, OK8 ρ υ → υ.1 81 0 = i32 (t + m) := fun υ ho => by rw [ho.1]; exact w81
  have q90 : ∀ υ : Mem, OK8 ρ υ → υ.1 90 0 = i32 s := fun υ ho => by rw [ho.1]; exact w90
  have ins : ∀ υ : Mem, OK8 ρ υ → ∃ τ, f_X7_insertShift υ = some τ ∧ OK8 ρ τ := fun υ ho => by
    obtain ⟨τ, e, p⟩ := t_insertShift (σ := υ) (gg.keep ho) hmt (q8 υ ho) (q9 υ ho) (q10 υ ho) (q90 υ ho)
    exact ⟨τ, e, ho.trans p⟩
  have inner : ∀ (c : Nat) (υ : Mem), c < 6 → OK8 ρ υ → ∃ τ, loopO (fun (z23 : (Mem × Int32)) => l_X7_findShifts_53 (i32 c) z23.1 z23.2) (υ, i32 0) = some τ ∧ OK8 ρ τ := fun c υ hc ho => by
    refine cnt_inv (body := fun (z23 : (Mem × Int32)) => l_X7_findShifts_53 (i32 c) z23.1 z23.2) (P := fun _ τ => OK8 ρ τ) (a := 0) (b := m) (by omega) ho ?_ ?_
    · intro i τ _ h2 o
      left
      have hl : ln (83 + c) = 6 := LA_81.2.2.2.2 c (by omega)
      obtain ⟨τ5, a5, p5⟩ := t_setU (σ := τ) (i := i) (y := τ.2 (83 + c) (t + i)) (by omega)
      show ∃ s', l_X7_findShifts_53 (i32 c) τ (i32 i) = _ ∧ _
      unfold l_X7_findShifts_53
      rw [e_gF, q8 _ o, if_neg (i_nle h2 (by omega)), e_gF, q9 _ o, i32_add, i32_6, if_neg (i_nle (by omega) (by omega)), e_82 hc, e_gF, q9 _ o, i32_add, e_gL hl (by omega) (by omega), a5, e_bs, i32_1, i32_add]
      exact ⟨_, rfl, o.trans p5⟩
    · intro τ o
      show ∃ x', l_X7_findShifts_53 (i32 c) τ (i32 m) = _ ∧ _
      unfold l_X7_findShifts_53
      rw [e_gF, q8 _ o, if_pos (i_le (Nat.le_refl _) (by omega))]
      exact ⟨_, rfl, o⟩
  obtain ⟨τ2, e2, o2⟩ := cnt_inv (body := fun (z14 : (Mem × Int32)) => l_X7_findShifts_16 z14.1 z14.2) (P := fun _ τ => OK8 ρ τ) (Q := fun τ => OK8 ρ τ) (a := t) (b := t + m) (s := σ1) (by omega) O1 (by
    intro c τ _ h2 o
    left
    obtain ⟨b, eb⟩ := t_hasStep (σ := τ) (a := 81) (n := t + m) (c := c) LA_81 (by omega) (q81 _ o) (by omega)
    show ∃ s', l_X7_findShifts_16 τ (i32 c) = _ ∧ _
    unfold l_X7_findShifts_16
    rw [e_gF, e_gF, q9 _ o, q8 _ o, i32_add, if_neg (i_nle (by omega) (by omega)), i32_6, if_neg (i_nle (by omega) (by omega)), eb, e_bs]
    cases b with
    | false =>
      rw [if_neg (by decide), e_bs]
      unfold j_X7_findShifts_103
      rw [i32_1, i32_add]
      exact ⟨_, rfl, o⟩
    | true =>
      obtain ⟨τ3, a3, p3⟩ := t_putU (σ := τ)
      have P3 := o.trans p3
      obtain ⟨τ4, a4, P4⟩ := inner c τ3 (by omega) P3
      have a4' : loopO (fun (z23 : (Mem × Int32)) => l_X7_findShifts_53 (i32 c) z23.1 z23.2) (τ3, 0) = some τ4 := a4
      obtain ⟨τ5, a5, P5⟩ := ins τ4 P4
      rw [if_pos rfl, a3, e_bs, a4', e_bs]
      unfold j_X7_findShifts_99
      rw [a5, e_bs, e_bs]
      unfold j_X7_findShifts_103
      rw [i32_1, i32_add]
      exact ⟨_, rfl, P5⟩) (by
    intro τ o
    show ∃ x', l_X7_findShifts_16 τ (i32 (t + m)) = _ ∧ _
    unfold l_X7_findShifts_16
    rw [e_gF, e_gF, q9 _ o, q8 _ o, i32_add, if_pos (i_le (Nat.le_refl _) (by omega))]
    exact ⟨_, rfl, o⟩)
  rw [e_gF, q9 _ O1, e2, e_bs]
  unfold j_X7_findShifts_109
  rw [e_gF, q8 _ o2]
  refine cnt_inv (body := fun (z7 : (Mem × Int32)) => l_X7_findShifts_114 z7.1 z7.2) (P := fun _ τ => OK8 ρ τ) (a := m) (b := m + t) (by omega) o2 ?_ ?_
  · intro i τ _ h2 o
    left
    obtain ⟨τ3, a3, p3⟩ := t_putU (σ := τ)
    have P3 := o.trans p3
    obtain ⟨τ4, a4, p4⟩ := t_setU (σ := τ3) (i := i) (y := 1) (by omega)
    have P4 := P3.trans p4
    obtain ⟨τ5, a5, P5⟩ := ins τ4 P4
    show ∃ s', l_X7_findShifts_114 τ (i32 i) = _ ∧ _
    unfold l_X7_findShifts_114
    rw [e_gF, e_gF, q8 _ o, q9 _ o, i32_add, if_neg (i_nle h2 (by omega)), a3, e_bs, a4, e_bs, a5, e_bs, i32_1, i32_add]
    exact ⟨_, rfl, P5⟩
  · intro τ o
    show ∃ x', l_X7_findShifts_114 τ (i32 (m + t)) = _ ∧ _
    unfold l_X7_findShifts_114
    rw [e_gF, e_gF, q8 _ o, q9 _ o, i32_add, if_pos (i_le (Nat.le_refl _) (by omega))]
    exact ⟨_, rfl, o⟩
end SHF2
