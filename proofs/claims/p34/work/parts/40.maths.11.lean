section
/-! the class's search of alike ends: turning and shifting -/
section SHF2
variable {σ : Mem} {G : GD}
theorem t_turnWeightTwo {m t : Nat} (h : GGp σ) (hmt : m + t ≤ 6) (h8 : σ.1 80 8 = i32 m) (h9 : σ.1 80 9 = i32 t) (h81 : σ.1 81 0 = i32 (t + m)) : ∃ b τ, f_X7_turnWeightTwo σ = some (b, τ) ∧ OK8 σ τ := by
  have q8 : ∀ υ : Mem, OK8 σ υ → υ.1 80 8 = i32 m := fun υ ho => by rw [ho.1]; exact h8
  have q9 : ∀ υ : Mem, OK8 σ υ → υ.1 80 9 = i32 t := fun υ ho => by rw [ho.1]; exact h9
  unfold f_X7_turnWeightTwo
  obtain ⟨τ1, a1, p1⟩ := t_putU (σ := σ)
  obtain ⟨τ2, a2, p2⟩ := t_copyGaps (σ := τ1) (p := m) (q := t) (x := 101) (h.keep p1) (by omega) (by omega) (by omega)
  have P2 := p1.trans p2
  obtain ⟨b, τ3, a3, p3⟩ := t_reduce (σ := τ2) (a := 81) (n := t + m) (x := 101) LA_81 (by omega) (by rw [P2.1]; exact h81) ln_101 (by omega)
  have P3 : OK8 σ τ3 := P2.trans ⟨p3.1, fun x hx => p3.2 x (by omega)⟩
  rw [a1, e_bs, e_gF, e_gF, q8 _ p1, q9 _ p1, a2, e_bs, a3, e_bq]
  obtain ⟨x, e, hx⟩ := loop_inv (body := fun (z14 : Int32) => l_X7_turnWeightTwo_35 τ3 z14) (fun k z => ∃ i, i ≤ t ∧ k = t - i ∧ z = i32 i) (fun x => x = Sum.inl () ∨ x = Sum.inr (false, τ3)) (by
    rintro k z ⟨i, hi, rfl, rfl⟩
    by_cases hit : i = t
    · right
      subst hit
      refine ⟨_, ?_, Or.inl rfl⟩
      unfold l_X7_turnWeightTwo_35
      rw [e_gF, q9 _ P3, if_pos (i_le (Nat.le_refl _) (by omega))]
    · by_cases hz : τ3.2 101 i = 0
      · left
        refine ⟨i32 (i + 1), t - (i + 1), by omega, ?_, i + 1, by omega, rfl, rfl⟩
        unfold l_X7_turnWeightTwo_35
        rw [e_gF, q9 _ P3, if_neg (i_nle (by omega) (by omega)), e_gL ln_101 (by omega) (by omega), if_pos hz, i32_1, i32_add]
      · right
        refine ⟨_, ?_, Or.inr rfl⟩
        unfold l_X7_turnWeightTwo_35
        rw [e_gF, q9 _ P3, if_neg (i_nle (by omega) (by omega)), e_gL ln_101 (by omega) (by omega), if_neg hz]) t 0 ⟨0, by omega, rfl, rfl⟩
  rw [e, e_bs]
  rcases hx with rfl | rfl
  · show ∃ b τ, j_X7_turnWeightTwo_62 τ3 = some (b, τ) ∧ _
    unfold j_X7_turnWeightTwo_62
    obtain ⟨y, e2, b, τ4, rfl, P4⟩ := cnt_inv (body := fun (z8 : (Mem × Int32)) => l_X7_turnWeightTwo_64 z8.1 z8.2) (P := fun _ τ => OK8 σ τ) (Q := fun y => ∃ b τ, y = (b, τ) ∧ OK8 σ τ) (a := 0) (b := m) (s := τ3) (by omega) P3 (by
      intro i τ _ h2 o
      left
      obtain ⟨τ5, a5, p5⟩ := t_setU (σ := τ) (i := i) (y := τ.2 101 (t + i)) (by omega)
      show ∃ s', l_X7_turnWeightTwo_64 τ (i32 i) = _ ∧ _
      unfold l_X7_turnWeightTwo_64
      rw [e_gF, q8 _ o, if_neg (i_nle h2 (by omega)), e_gF, q9 _ o, i32_add, i32_6, if_neg (i_nle (by omega) (by omega)), e_gF, q9 _ o, i32_add, e_gL ln_101 (by omega) (by omega), a5, e_bs, i32_1, i32_add]
      exact ⟨_, rfl, o.trans p5⟩) (by
      intro τ o
      show ∃ x', l_X7_turnWeightTwo_64 τ (i32 m) = _ ∧ _
      unfold l_X7_turnWeightTwo_64
      rw [e_gF, q8 _ o, if_pos (i_le (Nat.le_refl _) (by omega))]
      exact ⟨_, rfl, _, _, rfl, o⟩)
    exact ⟨b, τ4, e2, P4⟩
  · exact ⟨false, τ3, rfl, P3⟩
theorem t_insertShift {m t s : Nat} (h : GGp σ) (hmt : m + t + s ≤ 6) (h8 : σ.1 80 8 = i32 m) (h9 : σ.1 80 9 = i32 t) (h10 : σ.1 80 10 = i32 s) (h90 : σ.1 90 0 = i32 s) : ∃ τ, f_X7_insertShift σ = some τ ∧ OK8 σ τ := by
  unfold f_X7_insertShift
  obtain ⟨τ2, a2, p2⟩ := t_copyGaps (σ := σ) (p := m + t) (q := s) (x := 101) h (by omega) (by omega) (by omega)
  obtain ⟨τ7, a7, p7⟩ := t_insert (σ := τ2) (a := 90) (n := s) (x := 101) LA_90 (by omega) (by rw [p2.1]; exact h90) ln_101
  rw [e_gF, e_gF, e_gF, h8, h9, h10, i32_add, a2, e_bs, a7, e_bs]
  exact ⟨_, rfl, p2.trans p7.ok90⟩
theorem e_82 {α : Type} {f : Nat → Option α} {c : Nat} (hc : c < 6) : gR 82 (i32 c) f = f (83 + c) := by
  have := e_gRL (f := f) LA_81 hc
  rw [LA_81.1] at this
  exact this
theorem t_findShifts {m t s : Nat} (h : GGp σ) (hmt : m + t + s ≤ 6) (h8 : σ.1 80 8 = i32 m) (h9 : σ.1 80 9 = i32 t) (h10 : σ.1 80 10 = i32 s) (h81 : σ.1 81 0 = i32 (t + m)) : ∃ τ, f_X7_findShifts σ = some τ ∧ OK8 (wI σ 90 0 (i32 s)) τ := by
  unfold f_X7_findShifts
  obtain ⟨σ1, E, e1, k1, k2, _, _⟩ := c_clear (σ := σ) (a := 90) (n := s) LA_90 (by omega)
  rw [e_gF, h10, e1, e_bs]
  have O1 : OK8 (wI σ 90 0 (i32 s)) σ1 := ⟨k1, fun x hx => k2 x (by omega)⟩
  have gg : GGp (wI σ 90 0 (i32 s)) := fun k hk => by
    obtain ⟨G, N, hS, hN⟩ := h k hk
    refine ⟨G, N, ?_, hN⟩
    unfold GS
    rw [show (wI σ 90 0 (i32 s)).1 (104 + 4 * k) = σ.1 (104 + 4 * k) from by funext y; rw [wI_1, if_neg (by omega)], show (wI σ 90 0 (i32 s)).1 (104 + 4 * k + 1) = σ.1 (104 + 4 * k + 1) from by funext y; rw [wI_1, if_neg (by omega)], show (wI σ 90 0 (i32 s)).1 (104 + 4 * k + 3) = σ.1 (104 + 4 * k + 3) from by funext y; rw [wI_1, if_neg (by omega)]]
    exact hS
  have w8 : (wI σ 90 0 (i32 s)).1 80 8 = i32 m := by rw [wI_1, if_neg (by omega)]; exact h8
  have w9 : (wI σ 90 0 (i32 s)).1 80 9 = i32 t := by rw [wI_1, if_neg (by omega)]; exact h9
  have w10 : (wI σ 90 0 (i32 s)).1 80 10 = i32 s := by rw [wI_1, if_neg (by omega)]; exact h10
  have w81 : (wI σ 90 0 (i32 s)).1 81 0 = i32 (t + m) := by rw [wI_1, if_neg (by omega)]; exact h81
  have w90 : (wI σ 90 0 (i32 s)).1 90 0 = i32 s := by rw [wI_1, if_pos ⟨rfl, rfl⟩]
  generalize wI σ 90 0 (i32 s) = ρ at O1 gg w8 w9 w10 w81 w90 ⊢
  have q8 : ∀ υ : Mem, OK8 ρ υ → υ.1 80 8 = i32 m := fun υ ho => by rw [ho.1]; exact w8
  have q9 : ∀ υ : Mem, OK8 ρ υ → υ.1 80 9 = i32 t := fun υ ho => by rw [ho.1]; exact w9
  have q10 : ∀ υ : Mem, OK8 ρ υ → υ.1 80 10 = i32 s := fun υ ho => by rw [ho.1]; exact w10
  have q81 : ∀ υ : Mem, OK8 ρ υ → υ.1 81 0 = i32 (t + m) := fun υ ho => by rw [ho.1]; exact w81
  have q90 : ∀ υ : Mem, OK8 ρ υ → υ.1 90 0 = i32 s := fun υ ho => by rw [ho.1]; exact w90
  have ins : ∀ υ : Mem, OK8 ρ υ → ∃ τ, f_X7_insertShift υ = some τ ∧ OK8 ρ τ := fun υ ho => by
    obtain ⟨τ, e, p⟩ := t_insertShift (σ := υ) (gg.keep ho) hmt (q8 υ ho) (q9 υ ho) (q10 υ ho) (q90 υ ho)
    exact ⟨τ, e, ho.trans p⟩
  have inner : ∀ (c : Nat) (υ : Mem), c < 6 → OK8 ρ υ → ∃ τ, loopO (fun (z23 : (Mem × Int32)) => l_X7_findShifts_53 (i32 c) z23.1 z23.2) (υ, i32 0) = some τ ∧ OK8 ρ τ := fun c υ hc ho => by
    refine cnt_inv (body := fun (z23 : (Mem × Int32)) => l_X7_findShifts_53 (i32 c) z23.1 z23.2) (P := fun _ τ => OK8 ρ τ) (a := 0) (b := m) (by omega) ho ?_ ?_
    · intro i τ _ h2 o
      left
      have hl : ln (83 + c) = 6 := LA_81.2.2.2.2 c (by omega)
      obtain ⟨τ5, a5, p5⟩ := t_setU (σ := τ) (i := i) (y := τ.2 (83 + c) (t + i)) (by omega)
      show ∃ s', l_X7_findShifts_53 (i32 c) τ (i32 i) = _ ∧ _
      unfold l_X7_findShifts_53
      rw [e_gF, q8 _ o, if_neg (i_nle h2 (by omega)), e_gF, q9 _ o, i32_add, i32_6, if_neg (i_nle (by omega) (by omega)), e_82 hc, e_gF, q9 _ o, i32_add, e_gL hl (by omega) (by omega), a5, e_bs, i32_1, i32_add]
      exact ⟨_, rfl, o.trans p5⟩
    · intro τ o
      show ∃ x', l_X7_findShifts_53 (i32 c) τ (i32 m) = _ ∧ _
      unfold l_X7_findShifts_53
      rw [e_gF, q8 _ o, if_pos (i_le (Nat.le_refl _) (by omega))]
      exact ⟨_, rfl, o⟩
  obtain ⟨τ2, e2, o2⟩ := cnt_inv (body := fun (z14 : (Mem × Int32)) => l_X7_findShifts_16 z14.1 z14.2) (P := fun _ τ => OK8 ρ τ) (Q := fun τ => OK8 ρ τ) (a := t) (b := t + m) (s := σ1) (by omega) O1 (by
    intro c τ _ h2 o
    left
    obtain ⟨b, eb⟩ := t_hasStep (σ := τ) (a := 81) (n := t + m) (c := c) LA_81 (by omega) (q81 _ o) (by omega)
    show ∃ s', l_X7_findShifts_16 τ (i32 c) = _ ∧ _
    unfold l_X7_findShifts_16
    rw [e_gF, e_gF, q9 _ o, q8 _ o, i32_add, if_neg (i_nle (by omega) (by omega)), i32_6, if_neg (i_nle (by omega) (by omega)), eb, e_bs]
    cases b with
    | false =>
      rw [if_neg (by decide), e_bs]
      unfold j_X7_findShifts_103
      rw [i32_1, i32_add]
      exact ⟨_, rfl, o⟩
    | true =>
      obtain ⟨τ3, a3, p3⟩ := t_putU (σ := τ)
      have P3 := o.trans p3
      obtain ⟨τ4, a4, P4⟩ := inner c τ3 (by omega) P3
      have a4' : loopO (fun (z23 : (Mem × Int32)) => l_X7_findShifts_53 (i32 c) z23.1 z23.2) (τ3, 0) = some τ4 := a4
      obtain ⟨τ5, a5, P5⟩ := ins τ4 P4
      rw [if_pos rfl, a3, e_bs, a4', e_bs]
      unfold j_X7_findShifts_99
      rw [a5, e_bs, e_bs]
      unfold j_X7_findShifts_103
      rw [i32_1, i32_add]
      exact ⟨_, rfl, P5⟩) (by
    intro τ o
    show ∃ x', l_X7_findShifts_16 τ (i32 (t + m)) = _ ∧ _
    unfold l_X7_findShifts_16
    rw [e_gF, e_gF, q9 _ o, q8 _ o, i32_add, if_pos (i_le (Nat.le_refl _) (by omega))]
    exact ⟨_, rfl, o⟩)
  rw [e_gF, q9 _ O1, e2, e_bs]
  unfold j_X7_findShifts_109
  rw [e_gF, q8 _ o2]
  refine cnt_inv (body := fun (z7 : (Mem × Int32)) => l_X7_findShifts_114 z7.1 z7.2) (P := fun _ τ => OK8 ρ τ) (a := m) (b := m + t) (by omega) o2 ?_ ?_
  · intro i τ _ h2 o
    left
    obtain ⟨τ3, a3, p3⟩ := t_putU (σ := τ)
    have P3 := o.trans p3
    obtain ⟨τ4, a4, p4⟩ := t_setU (σ := τ3) (i := i) (y := 1) (by omega)
    have P4 := P3.trans p4
    obtain ⟨τ5, a5, P5⟩ := ins τ4 P4
    show ∃ s', l_X7_findShifts_114 τ (i32 i) = _ ∧ _
    unfold l_X7_findShifts_114
    rw [e_gF, e_gF, q8 _ o, q9 _ o, i32_add, if_neg (i_nle h2 (by omega)), a3, e_bs, a4, e_bs, a5, e_bs, i32_1, i32_add]
    exact ⟨_, rfl, P5⟩
  · intro τ o
    show ∃ x', l_X7_findShifts_114 τ (i32 (m + t)) = _ ∧ _
    unfold l_X7_findShifts_114
    rw [e_gF, e_gF, q8 _ o, q9 _ o, i32_add, if_pos (i_le (Nat.le_refl _) (by omega))]
    exact ⟨_, rfl, o⟩
end SHF2
end
section
/-! the class's alike: the call ends; both -/
section CCL
variable {σ : Mem} {G : GD}
def cwN (G : GD) (w : Nat) : Nat → Nat
  | 0 => 0
  | k + 1 => cwN G w k + if gw G k = w then 1 else 0
theorem cwN_le : ∀ k, cwN G 1 k + cwN G 2 k + cwN G 3 k ≤ k
  | 0 => Nat.le_refl _
  | k + 1 => by
    have h := cwN_le k
    show (cwN G 1 k + if gw G k = 1 then 1 else 0) + (cwN G 2 k + if gw G k = 2 then 1 else 0) + (cwN G 3 k + if gw G k = 3 then 1 else 0) ≤ k + 1
    by_cases h1 : gw G k = 1
    · rw [if_pos h1, if_neg (by omega), if_neg (by omega)]
      omega
    · rw [if_neg h1]
      by_cases h2 : gw G k = 2
      · rw [if_pos h2, if_neg (by omega)]
        omega
      · rw [if_neg h2]
        split <;> omega
theorem c_countOf {w : Nat} (hG : GOK G) (h : CG σ 41 G) (hw : w ≤ 3) : f_X6_countOf σ 41 (i32 w) = some (i32 (cwN G w (gn G))) := by
  have hn := hG.2.1
  unfold f_X6_countOf
  refine loop_at (body := fun (z2 : (Int32 × Int32)) => l_X6_countOf_4 σ 41 (i32 w) z2.1 z2.2) (fun k => (i32 (cwN G w k), i32 k)) 0 (gn G) rfl (by omega) (fun k _ hk => ?_) ?_
  · show l_X6_countOf_4 σ 41 (i32 w) (i32 (cwN G w k)) (i32 k) = _
    unfold l_X6_countOf_4
    have hg := (hG.2.2.1 k hk).2
    rw [e_gF, h.1, if_neg (i_nle hk (by omega)), show rf 41 1 = 42 by decide +kernel, e_gI ln_42 (by omega) (by omega), h.2.1 k (by omega)]
    by_cases hc : gw G k = w
    · rw [hc, if_pos rfl, e_bs]
      unfold j_X6_countOf_28
      rw [e_bd, show i32 k + 1 = i32 (k + 1) from by rw [i32_1, i32_add], show i32 (cwN G w k) + b2i true = i32 (cwN G w (k + 1)) from by
        show i32 (cwN G w k) + i32 1 = i32 (cwN G w k + if gw G k = w then 1 else 0)
        rw [i32_add, if_pos hc]]
    · rw [if_neg (i_ne hc (by omega) (by omega)), e_bs]
      unfold j_X6_countOf_28
      rw [e_bd, show i32 k + 1 = i32 (k + 1) from by rw [i32_1, i32_add], show i32 (cwN G w k) + b2i false = i32 (cwN G w (k + 1)) from by
        show i32 (cwN G w k) + i32 0 = i32 (cwN G w k + if gw G k = w then 1 else 0)
        rw [i32_add, if_neg hc]]
  · show l_X6_countOf_4 σ 41 (i32 w) (i32 (cwN G w (gn G))) (i32 (gn G)) = _
    unfold l_X6_countOf_4
    rw [e_gF, h.1, if_pos (i_le (Nat.le_refl _) (by omega))]
theorem SC.wI8 {a k : Nat} {v : Int32} (h : 72 ≤ a ∧ a ≤ 127) : SC σ (wI σ a k v) := ⟨fun x hx => by funext y; rw [wI_1, if_neg (by omega)], fun c _ => by rw [wI_1, if_neg (by omega)], fun c _ => by rw [wI_1, if_neg (by omega)], fun _ _ => rfl⟩
theorem OL.sc8 {τ : Mem} (h : OK8 σ τ) : SC σ τ := OL.sc h (fun x hx => Or.inr (Or.inl ⟨by omega, by omega⟩))
theorem t_areConjugates {c : Nat} {S : AS} {p q : Nat} (h : ICls c S σ) (ok : OKS S) (hcons : Cons (aG S)) (hp : p < 10) (hq : q < 10) : ∃ b τ, f_X7_areConjugates σ (6 + p) (6 + q) = some (b, τ) ∧ SC σ τ := by
  have hG : GOK (aG S) := ok.1.1
  have hn : gn (aG S) ≤ 6 := hG.2.1
  have hle := cwN_le (G := aG S) (gn (aG S))
  unfold f_X7_areConjugates
  have b1 := c_countOf (σ := σ) (w := 1) hG h.law.1 (by omega)
  have s1 : SC σ (wI σ 80 8 (i32 (cwN (aG S) 1 (gn (aG S))))) := SC.wI8 (by omega)
  have b2 := c_countOf (w := 2) hG (h.sc s1).law.1 (by omega)
  have s2 := s1.trans (SC.wI8 (σ := wI σ 80 8 (i32 (cwN (aG S) 1 (gn (aG S))))) (a := 80) (k := 9) (v := i32 (cwN (aG S) 2 (gn (aG S)))) (by omega))
  have b3 := c_countOf (w := 3) hG (h.sc s2).law.1 (by omega)
  have s3 := s2.trans (SC.wI8 (σ := wI (wI σ 80 8 (i32 (cwN (aG S) 1 (gn (aG S))))) 80 9 (i32 (cwN (aG S) 2 (gn (aG S))))) (a := 80) (k := 10) (v := i32 (cwN (aG S) 3 (gn (aG S)))) (by omega))
  have b1' : f_X6_countOf σ 41 1 = _ := b1
  have b2' : f_X6_countOf _ 41 2 = _ := b2
  have b3' : f_X6_countOf _ 41 3 = _ := b3
  rw [b1', e_bs, e_pF, b2', e_bs, e_pF, b3', e_bs, e_pF]
  have k8 : (wI (wI (wI σ 80 8 (i32 (cwN (aG S) 1 (gn (aG S))))) 80 9 (i32 (cwN (aG S) 2 (gn (aG S))))) 80 10 (i32 (cwN (aG S) 3 (gn (aG S))))).1 80 8 = i32 (cwN (aG S) 1 (gn (aG S))) := by rw [wI_1, if_neg (by omega), wI_1, if_neg (by omega), wI_1, if_pos ⟨rfl, rfl⟩]
  have k9 : (wI (wI (wI σ 80 8 (i32 (cwN (aG S) 1 (gn (aG S))))) 80 9 (i32 (cwN (aG S) 2 (gn (aG S))))) 80 10 (i32 (cwN (aG S) 3 (gn (aG S))))).1 80 9 = i32 (cwN (aG S) 2 (gn (aG S))) := by rw [wI_1, if_neg (by omega), wI_1, if_pos ⟨rfl, rfl⟩]
  have k10 : (wI (wI (wI σ 80 8 (i32 (cwN (aG S) 1 (gn (aG S))))) 80 9 (i32 (cwN (aG S) 2 (gn (aG S))))) 80 10 (i32 (cwN (aG S) 3 (gn (aG S))))).1 80 10 = i32 (cwN (aG S) 3 (gn (aG S))) := by rw [wI_1, if_pos ⟨rfl, rfl⟩]
  generalize wI (wI (wI σ 80 8 (i32 (cwN (aG S) 1 (gn (aG S))))) 80 9 (i32 (cwN (aG S) 2 (gn (aG S))))) 80 10 (i32 (cwN (aG S) 3 (gn (aG S)))) = σ6 at s3 k8 k9 k10 ⊢
  generalize cwN (aG S) 1 (gn (aG S)) = m at k8 hle
  generalize cwN (aG S) 2 (gn (aG S)) = t at k9 hle
  generalize cwN (aG S) 3 (gn (aG S)) = s at k10 hle
  have h6 := h.sc s3
  have wp := (reg_sb ok p).w hG (by omega)
  have wq := (reg_sb ok q).w hG (by omega)
  obtain ⟨σ7, e7, f7, g7, _⟩ := c_findGaps hG (c_ct h6 hcons) (ln_reg hp) (ln_reg hq) (c_reg h6 hp) (c_reg h6 hq) (by omega) (by omega) wp wq
  obtain ⟨σ8, e8, o8, c8⟩ := c_putU (σ := σ7) (G := aG S) (y := 0) (by unfold two64ok; omega)
  have g8 : GapOK (aG S) σ8 (aR S p) (aR S q) := g7.eqs (fun x h1 h2 => ⟨by rw [o8.1], o8.2 x (by omega)⟩)
  have i8 : ∀ x, x < 104 → σ8.1 x = σ6.1 x := fun x hx => by rw [o8.1]; exact f7.1 x (by omega)
  have sc8 : SC σ σ8 := (s3.trans f7.sc).trans (OL.sc o8 (fun x hx => by omega))
  have m8 : σ8.1 80 8 = i32 m := by rw [i8 80 (by omega)]; exact k8
  have m9 : σ8.1 80 9 = i32 t := by rw [i8 80 (by omega)]; exact k9
  have m10 : σ8.1 80 10 = i32 s := by rw [i8 80 (by omega)]; exact k10
  have e8' : f_X7_putU σ7 0 = some σ8 := e8
  obtain ⟨b, eb, _⟩ := c_areClosed (s := 0) (m := m) g8 c8 (by omega) (by omega)
  have eb' : f_X7_areClosed σ8 0 (i32 m) = some b := eb
  rw [e7, e_bs, e8', e_bs, e_gF, m8, eb', e_bs]
  cases b with
  | false => exact ⟨false, σ8, by rw [if_neg (by decide)], sc8⟩
  | true =>
    obtain ⟨σ11, e11, o11⟩ := t_findTurns (σ := σ8) (m := m) (t := t) g8.gg (by omega) m8 m9
    have gg8 : GGp (wI σ8 81 0 (i32 (t + m))) := fun k hk => by
      obtain ⟨G, N, hS, hN⟩ := g8.gg k hk
      refine ⟨G, N, ?_, hN⟩
      unfold GS
      rw [show (wI σ8 81 0 (i32 (t + m))).1 (104 + 4 * k) = σ8.1 (104 + 4 * k) from by funext y; rw [wI_1, if_neg (by omega)], show (wI σ8 81 0 (i32 (t + m))).1 (104 + 4 * k + 1) = σ8.1 (104 + 4 * k + 1) from by funext y; rw [wI_1, if_neg (by omega)], show (wI σ8 81 0 (i32 (t + m))).1 (104 + 4 * k + 3) = σ8.1 (104 + 4 * k + 3) from by funext y; rw [wI_1, if_neg (by omega)]]
      exact hS
    have sc11 : SC σ σ11 := (sc8.trans (SC.wI8 (by omega))).trans o11.sc8
    have n8 : σ11.1 80 8 = i32 m := by rw [o11.1, wI_1, if_neg (by omega)]; exact m8
    have n9 : σ11.1 80 9 = i32 t := by rw [o11.1, wI_1, if_neg (by omega)]; exact m9
    have n10 : σ11.1 80 10 = i32 s := by rw [o11.1, wI_1, if_neg (by omega)]; exact m10
    have n81 : σ11.1 81 0 = i32 (t + m) := by rw [o11.1, wI_1, if_pos ⟨rfl, rfl⟩]
    obtain ⟨b, σ13, e13, o13⟩ := t_turnWeightTwo (σ := σ11) (gg8.keep o11) (m := m) (t := t) (by omega) n8 n9 n81
    rw [if_pos rfl, e11, e_bs, e13, e_bq]
    have sc13 := sc11.trans o13.sc8
    cases b with
    | false => exact ⟨false, σ13, by rw [if_neg (by decide)], sc13⟩
    | true =>
      have r8 : σ13.1 80 8 = i32 m := by rw [o13.1]; exact n8
      have r9 : σ13.1 80 9 = i32 t := by rw [o13.1]; exact n9
      have r10 : σ13.1 80 10 = i32 s := by rw [o13.1]; exact n10
      obtain ⟨σ17, e17, o17⟩ := t_copyGaps (σ := σ13) (p := m + t) (q := s) (x := 102) ((gg8.keep o11).keep o13) (by omega) (by omega) (by omega)
      have sc17 := sc13.trans o17.sc8
      have h17 := h.sc sc17
      obtain ⟨σ18, e18, f18, g18, _⟩ := c_findGaps hG (c_ct h17 hcons) (ln_reg hq) (ln_reg hq) (c_reg h17 hq) (c_reg h17 hq) (by omega) (by omega) wq wq
      have j18 : ∀ x, x < 104 → σ18.1 x = σ11.1 x := fun x hx => by rw [f18.1 x (by omega), o17.1, o13.1]
      obtain ⟨σ19, e19, o19⟩ := t_findShifts (σ := σ18) (m := m) (t := t) (s := s) g18.gg (by omega) (by rw [j18 80 (by omega)]; exact n8) (by rw [j18 80 (by omega)]; exact n9) (by rw [j18 80 (by omega)]; exact n10) (by rw [j18 81 (by omega)]; exact n81)
      have sc19 : SC σ σ19 := ((sc17.trans f18.sc).trans (SC.wI8 (by omega))).trans o19.sc8
      obtain ⟨b, σ21, e21, p21⟩ := t_reduce (σ := σ19) (a := 90) (n := s) (x := 102) LA_90 (by omega) (by rw [o19.1, wI_1, if_pos ⟨rfl, rfl⟩]) ln_102 (by omega)
      rw [if_pos rfl, e_gF, e_gF, e_gF, r8, r9, r10, i32_add, e17, e_bs, e18, e_bs, e19, e_bs, e21, e_bq]
      exact ⟨b, σ21, rfl, sc19.trans (OL.sc8 ⟨p21.1, fun x hx => p21.2 x (by omega)⟩)⟩
theorem t_isWithin {a : Nat} {g : Int64} {A : Nat → Int} (ha : ln a = 6) (hA : H6 σ a A) : ∃ r, f_X0_isWithin σ a g = some r := by
  by_cases h : ∀ k, k < 6 → -g ≤ oi (A k) ∧ oi (A k) ≤ g
  · exact ⟨true, c_isWithin ha hA ⟨fun _ => h, fun _ => rfl⟩⟩
  · exact ⟨false, c_isWithin ha hA ⟨fun q => absurd q (by decide), fun q => absurd q h⟩⟩
/-- alike, without a word of its answers -/
theorem any_25 : ∀ (c : Nat) (σ : Mem) (x0 : Int32) (x1 : Int32), c < 520 → II c σ → ∃ (r1 r2 : Int32) (σ1 : Mem) (σ2 : Mem), f_X10_alike σ x0 x1 = some (r1, σ1) ∧ f_X11_alike σ1 x0 x1 = some (r2, σ2) ∧ II (c + 1) σ2 := by
  intro c σ x y hc ⟨S, ok, h, hr⟩
  obtain ⟨b, hb, hB⟩ := c_cons h
  have cls : ∃ r1 σ1, f_X10_alike σ x y = some (r1, σ1) ∧ SC σ σ1 := by
    unfold f_X10_alike
    rw [c_areUsable hb, e_bs]
    cases hu : (isReg x && (isReg y && b)) with
    | false => exact ⟨-1, σ, by rw [if_neg (by decide)], SC.refl⟩
    | true =>
      rw [Bool.and_eq_true, Bool.and_eq_true] at hu
      obtain ⟨p, hp, rfl⟩ := isReg_idx hu.1
      obtain ⟨q, hq, rfl⟩ := isReg_idx hu.2.1
      rw [if_pos rfl, e_gR ln_5 hp (by omega), rf_5 hp, e_gR ln_5 hq (by omega), rf_5 hq]
      obtain ⟨w1, e1⟩ := t_isWithin (g := 30) (ln_reg hp) (c_reg h hp)
      obtain ⟨w2, e2⟩ := t_isWithin (g := 30) (ln_reg hq) (c_reg h hq)
      rw [e1, e_bs]
      cases w1 with
      | false => exact ⟨-2, σ, by rw [if_neg (by decide)], SC.refl⟩
      | true =>
        rw [if_pos rfl, e2, e_bs]
        cases w2 with
        | false => exact ⟨-2, σ, by rw [if_neg (by decide)], SC.refl⟩
        | true =>
          obtain ⟨b3, τ, e3, s3⟩ := t_areConjugates h ok (hB.mp hu.2.2) hp hq
          rw [if_pos rfl, e3, e_bq, c_bitB, e_bs]
          exact ⟨_, τ, rfl, s3⟩
  obtain ⟨r1, σ1, e1, s1⟩ := cls
  obtain ⟨r2, σ2, e2, q2, l2⟩ := r_alikeC (x := x) (y := y) ok (hr.hi s1.hi)
  exact ⟨r1, r2, σ1, σ2, e1, e2, fin_q ok (h.sc s1) q2 l2⟩
end CCL
end
