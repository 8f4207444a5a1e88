/-! the class's alike where both registers are ONE, in a group without weight 3 -/
section ONC
variable {σ : Mem} {G : GD} {a n : Nat}
theorem z_floorDiv {y : Int64} (h : y ≠ 0) : f_J9_floorDiv_f86c9 σ 0 y = some 0 := by
  unfold f_J9_floorDiv_f86c9
  rw [e_nzL h, e_bd, Int64.zero_div]
  split
  · rfl
  · rw [Int64.zero_mul, if_pos rfl]
def ZR (σ : Mem) (x : Nat) : Prop := ∀ j, j < 6 → σ.2 x j = 0
theorem z_take {x c : Nat} (hL : LA a) (hn : n ≤ 6) (h0 : σ.1 a 0 = i32 n) (hc : c < 6) (hx : ln x = 6) (hxc : x ≠ a + 2 + c) (hz : ZR σ x) : ∃ τ, f_X3_takeStep σ a x (i32 c) = some τ ∧ FRo x σ τ ∧ ZR τ x := by
  have hlc := hL.2.2.2.2 c (by omega)
  unfold f_X3_takeStep
  rw [e_gRL hL hc, e_gL hlc hc (by omega)]
  by_cases h : σ.2 (a + 2 + c) c = 0
  · rw [if_pos h]
    exact ⟨σ, rfl, FRo.refl, hz⟩
  · rw [if_neg h, e_gRL hL hc, e_gL hx hc (by omega), e_gRL hL hc, e_gL hlc hc (by omega), hz c hc, z_floorDiv h, e_bs, c_sub hn h0 hx hlc hxc, e_bs]
    refine ⟨_, rfl, ⟨rfl, fun y hy => rwL_x hy⟩, fun j hj => ?_⟩
    rw [rwL_a, hz j hj, Int64.zero_mul]
    split <;> rfl
theorem z_reduce {x : Nat} (hL : LA a) (hn : n ≤ 6) (h0 : σ.1 a 0 = i32 n) (hx : ln x = 6) (hxa : ¬ (a + 2 ≤ x ∧ x ≤ a + 8)) (hz : ZR σ x) : ∃ b τ, f_X3_reduce σ a x = some (b, τ) ∧ FRo x σ τ ∧ ZR τ x := by
  unfold f_X3_reduce
  obtain ⟨y, e, b, τ, rfl, f, z⟩ := loop_inv (body := fun (z3 : (Mem × Int32 × Int32)) => l_X3_reduce_4 a x z3.1 z3.2.1 z3.2.2) (fun k z => ∃ c τ b, c ≤ n ∧ k = n - c ∧ z = (τ, b2i b, i32 c) ∧ FRo x σ τ ∧ ZR τ x) (fun y => ∃ b τ, y = (b, τ) ∧ FRo x σ τ ∧ ZR τ x) (by
    rintro k z ⟨c, τ, b, hc, rfl, rfl, fr, hzτ⟩
    have g0 : τ.1 a 0 = i32 n := by rw [fr.1]; exact h0
    by_cases hcn : c = n
    · right
      subst hcn
      refine ⟨(b, τ), ?_, b, τ, rfl, fr, hzτ⟩
      show l_X3_reduce_4 a x τ (b2i b) (i32 c) = _
      unfold l_X3_reduce_4
      rw [e_gF, g0, if_pos (i_le (Nat.le_refl _) (by omega))]
      cases b <;> rfl
    · left
      obtain ⟨τ2, e2, f2, z2⟩ := z_take (σ := τ) (x := x) (c := c) hL hn g0 (by omega) hx (by omega) hzτ
      have key : ∃ b2 : Bool, l_X3_reduce_4 a x τ (b2i b) (i32 c) = some (Sum.inl (τ2, b2i b2, i32 (c + 1))) := by
        unfold l_X3_reduce_4
        rw [e_gF, g0, if_neg (i_nle (by omega) (by omega)), e2, e_bs]
        have fin : ∀ b2, (some b2 : Option Bool).bind (fun (z7 : Bool) => j_X3_reduce_35 (i32 c) τ2 z7) = some (Sum.inl (τ2, b2i b2, i32 (c + 1))) := fun b2 => by
          rw [e_bs]
          unfold j_X3_reduce_35
          rw [i32_1, i32_add]
        cases b with
        | false => exact ⟨false, by rw [if_pos (show b2i false = 0 from rfl), e_bs]; exact fin false⟩
        | true =>
          rw [if_neg (show ¬ b2i true = 0 by decide), e_gL hx (by omega) (by omega)]
          split
          · exact ⟨true, by rw [e_bs]; exact fin true⟩
          · exact ⟨false, by rw [e_bs]; exact fin false⟩
      obtain ⟨b2, e3⟩ := key
      exact ⟨(τ2, b2i b2, i32 (c + 1)), n - (c + 1), by omega, e3, c + 1, τ2, b2, by omega, rfl, rfl, fr.trans f2, z2⟩) n (σ, 1, 0) ⟨0, σ, true, by omega, rfl, rfl, FRo.refl, hz⟩
  exact ⟨b, τ, e, f, z⟩
theorem z_reduce0 {x : Nat} (h0 : σ.1 a 0 = i32 0) : f_X3_reduce σ a x = some (true, σ) := by
  unfold f_X3_reduce
  rw [loopO_eq]
  show (l_X3_reduce_4 a x σ (b2i true) (i32 0)).bind _ = _
  unfold l_X3_reduce_4
  rw [e_gF, h0, if_pos (i_le (Nat.le_refl _) (by omega))]
  rfl
theorem CU.keep {τ : Mem} {u : Nat → Int} {p : Nat → Prop} (h : CU G σ u p) (o : OL (fun z => z = 101) σ τ) : CU G τ u p := by
  obtain ⟨h1, x, hx, hT⟩ := h
  exact ⟨fun i hi hp => by rw [o.2 103 (by omega)]; exact h1 i hi hp, x, hx, TbU.keep hT o (by omega)⟩
theorem z_copyGaps {p q : Nat} {A Y u : Nat → Int} (hg : GapOK G σ A Y) (hu : CU G σ u (fun _ => True)) (hz : ∀ k, k < 6 → oi (gapv G A Y k u) = 0) (hp : p ≤ 6) (hq : q ≤ 6) : ∃ τ, f_X7_copyGaps σ (i32 p) (i32 q) 101 = some τ ∧ OL (fun z => z = 101) σ τ ∧ ZR τ 101 := by
  obtain ⟨σ1, e1, o1, f1⟩ := fillL (σ := σ) (a := 101) (v := 0) ln_101 (by omega)
  unfold f_X7_copyGaps
  rw [e1, e_bs]
  refine cnt_inv (body := fun (z3 : (Mem × Int32)) => l_X7_copyGaps_8 (i32 p) (i32 q) 101 z3.1 z3.2) (P := fun _ τ => OL (fun z => z = 101) σ τ ∧ ZR τ 101) (a := 0) (b := q) (by omega) ⟨o1, f1⟩ ?_ ?_
  · rintro i τ _ h2 ⟨o, z⟩
    show (∃ s', l_X7_copyGaps_8 (i32 p) (i32 q) 101 τ (i32 i) = _ ∧ _) ∨ ∃ x', l_X7_copyGaps_8 (i32 p) (i32 q) 101 τ (i32 i) = _ ∧ _
    unfold l_X7_copyGaps_8
    rw [if_neg (i_nle h2 (by omega)), i32_add, i32_6]
    by_cases h6 : 6 ≤ p + i
    · right
      rw [if_pos (i_le h6 (by omega))]
      exact ⟨_, rfl, o, z⟩
    · left
      have ev := CU.gap (show p + i < 6 by omega) (hg.eqs (τ := τ) (fun x h1 h2 => ⟨by rw [o.1], o.2 x (by omega)⟩)) (hu.keep o)
      rw [if_neg (i_nle (by omega) (by omega)), e_gR ln_99 (by omega) (by omega), (SP_gap (show p + i < 6 by omega)).2, ev, e_bs, hz _ (by omega), e_pL ln_101 (by omega) (by omega), i32_1, i32_add]
      refine ⟨_, rfl, o.trans (OL.wL (P := fun y => y = 101) rfl), fun j hj => ?_⟩
      rw [wL_2]
      split
      · rfl
      · exact z j hj
  · rintro τ ⟨o, z⟩
    show ∃ x', l_X7_copyGaps_8 (i32 p) (i32 q) 101 τ (i32 q) = _ ∧ _
    unfold l_X7_copyGaps_8
    rw [if_pos (i_le (Nat.le_refl _) (by omega))]
    exact ⟨_, rfl, o, z⟩
theorem z_turnWeightTwo {A Y : Nat → Int} {m t : Nat} (hg : GapOK G σ A Y) (hz : ∀ k, k < 6 → oi (gapv G A Y k (fun _ => 0)) = 0) (hmt : m + t ≤ 6) (h8 : σ.1 80 8 = i32 m) (h9 : σ.1 80 9 = i32 t) (h81 : σ.1 81 0 = i32 (t + m)) : ∃ τ, f_X7_turnWeightTwo σ = some (true, τ) ∧ OK8 σ τ := by
  have q8 : ∀ υ : Mem, OK8 σ υ → υ.1 80 8 = i32 m := fun υ ho => by rw [ho.1]; exact h8
  have q9 : ∀ υ : Mem, OK8 σ υ → υ.1 80 9 = i32 t := fun υ ho => by rw [ho.1]; exact h9
  unfold f_X7_turnWeightTwo
  obtain ⟨τ1, a1, o1, u1⟩ := c_putU (σ := σ) (G := G) (y := 0) (by unfold two64ok; omega)
  have a1' : f_X7_putU σ 0 = some τ1 := a1
  have p1 : OK8 σ τ1 := o1.mono (fun x hx => by omega)
  have g1 : GapOK G τ1 A Y := hg.eqs (fun x h1 h2 => ⟨by rw [o1.1], o1.2 x (by omega)⟩)
  obtain ⟨τ2, a2, o2, z2⟩ := z_copyGaps (σ := τ1) (p := m) (q := t) g1 u1 hz (by omega) (by omega)
  have P2 : OK8 σ τ2 := p1.trans (o2.mono (fun x hx => by omega))
  obtain ⟨b, τ3, a3, p3, z3⟩ := z_reduce (σ := τ2) (a := 81) (n := t + m) (x := 101) LA_81 (by omega) (by rw [P2.1]; exact h81) ln_101 (by omega) z2
  have P3 : OK8 σ τ3 := P2.trans ⟨p3.1, fun x hx => p3.2 x (by omega)⟩
  rw [a1', e_bs, e_gF, e_gF, q8 _ p1, q9 _ p1, a2, e_bs, a3, e_bq]
  obtain ⟨x, e, hx⟩ := loop_inv (body := fun (z14 : Int32) => l_X7_turnWeightTwo_35 τ3 z14) (fun k z => ∃ i, i ≤ t ∧ k = t - i ∧ z = i32 i) (fun x => x = Sum.inl ()) (by
    rintro k z ⟨i, hi, rfl, rfl⟩
    by_cases hit : i = t
    · right
      subst hit
      refine ⟨_, ?_, rfl⟩
      unfold l_X7_turnWeightTwo_35
      rw [e_gF, q9 _ P3, if_pos (i_le (Nat.le_refl _) (by omega))]
    · left
      refine ⟨i32 (i + 1), t - (i + 1), by omega, ?_, i + 1, by omega, rfl, rfl⟩
      unfold l_X7_turnWeightTwo_35
      rw [e_gF, q9 _ P3, if_neg (i_nle (by omega) (by omega)), e_gL ln_101 (by omega) (by omega), if_pos (z3 i (by omega)), i32_1, i32_add]) t 0 ⟨0, by omega, rfl, rfl⟩
  rw [e, e_bs]
  subst hx
  show ∃ τ, j_X7_turnWeightTwo_62 τ3 = some (true, τ) ∧ _
  unfold j_X7_turnWeightTwo_62
  obtain ⟨y, e2, τ4, rfl, P4⟩ := cnt_inv (body := fun (z8 : (Mem × Int32)) => l_X7_turnWeightTwo_64 z8.1 z8.2) (P := fun _ τ => OK8 σ τ) (Q := fun y => ∃ τ, y = (true, τ) ∧ OK8 σ τ) (a := 0) (b := m) (s := τ3) (by omega) P3 (by
    intro i τ _ h2 o
    left
    obtain ⟨τ5, a5, p5⟩ := t_setU (σ := τ) (i := i) (y := τ.2 101 (t + i)) (by omega)
    show ∃ s', l_X7_turnWeightTwo_64 τ (i32 i) = _ ∧ _
    unfold l_X7_turnWeightTwo_64
    rw [e_gF, q8 _ o, if_neg (i_nle h2 (by omega)), e_gF, q9 _ o, i32_add, i32_6, if_neg (i_nle (by omega) (by omega)), e_gF, q9 _ o, i32_add, e_gL ln_101 (by omega) (by omega), a5, e_bs, i32_1, i32_add]
    exact ⟨_, rfl, o.trans p5⟩) (by
    intro τ o
    show ∃ x', l_X7_turnWeightTwo_64 τ (i32 m) = _ ∧ _
    unfold l_X7_turnWeightTwo_64
    rw [e_gF, q8 _ o, if_pos (i_le (Nat.le_refl _) (by omega))]
    exact ⟨_, rfl, _, rfl, o⟩)
  exact ⟨τ4, e2, P4⟩
theorem z_areConjugates {c : Nat} {S : AS} {p q : Nat} (h : ICls c S σ) (ok : OKS S) (hcons : Cons (aG S)) (hp : p < 10) (hq : q < 10) (zp : aR S p = fun _ => 0) (zq : aR S q = fun _ => 0) (h3 : cwN (aG S) 3 (gn (aG S)) = 0) : ∃ τ, f_X7_areConjugates σ (6 + p) (6 + q) = some (true, τ) ∧ SC σ τ := by
  have hG : GOK (aG S) := ok.1.1
  have hn : gn (aG S) ≤ 6 := hG.2.1
  have hle := cwN_le (G := aG S) (gn (aG S))
  unfold f_X7_areConjugates
  have b1 := c_countOf (σ := σ) (w := 1) hG h.law.1 (by omega)
  have s1 : SC σ (wI σ 80 8 (i32 (cwN (aG S) 1 (gn (aG S))))) := SC.wI8 (by omega)
  have b2 := c_countOf (w := 2) hG (h.sc s1).law.1 (by omega)
  have s2 := s1.trans (SC.wI8 (σ := wI σ 80 8 (i32 (cwN (aG S) 1 (gn (aG S))))) (a := 80) (k := 9) (v := i32 (cwN (aG S) 2 (gn (aG S)))) (by omega))
  have b3 := c_countOf (w := 3) hG (h.sc s2).law.1 (by omega)
  have s3 := s2.trans (SC.wI8 (σ := wI (wI σ 80 8 (i32 (cwN (aG S) 1 (gn (aG S))))) 80 9 (i32 (cwN (aG S) 2 (gn (aG S))))) (a := 80) (k := 10) (v := i32 (cwN (aG S) 3 (gn (aG S)))) (by omega))
  have b1' : f_X6_countOf σ 41 1 = _ := b1
  have b2' : f_X6_countOf _ 41 2 = _ := b2
  have b3' : f_X6_countOf _ 41 3 = _ := b3
  rw [b1', e_bs, e_pF, b2', e_bs, e_pF, b3', e_bs, e_pF]
  have k8 : (wI (wI (wI σ 80 8 (i32 (cwN (aG S) 1 (gn (aG S))))) 80 9 (i32 (cwN (aG S) 2 (gn (aG S))))) 80 10 (i32 (cwN (aG S) 3 (gn (aG S))))).1 80 8 = i32 (cwN (aG S) 1 (gn (aG S))) := by rw [wI_1, if_neg (by omega), wI_1, if_neg (by omega), wI_1, if_pos ⟨rfl, rfl⟩]
  have k9 : (wI (wI (wI σ 80 8 (i32 (cwN (aG S) 1 (gn (aG S))))) 80 9 (i32 (cwN (aG S) 2 (gn (aG S))))) 80 10 (i32 (cwN (aG S) 3 (gn (aG S))))).1 80 9 = i32 (cwN (aG S) 2 (gn (aG S))) := by rw [wI_1, if_neg (by omega), wI_1, if_pos ⟨rfl, rfl⟩]
  have k10 : (wI (wI (wI σ 80 8 (i32 (cwN (aG S) 1 (gn (aG S))))) 80 9 (i32 (cwN (aG S) 2 (gn (aG S))))) 80 10 (i32 (cwN (aG S) 3 (gn (aG S))))).1 80 10 = i32 (cwN (aG S) 3 (gn (aG S))) := by rw [wI_1, if_pos ⟨rfl, rfl⟩]
  generalize wI (wI (wI σ 80 8 (i32 (cwN (aG S) 1 (gn (aG S))))) 80 9 (i32 (cwN (aG S) 2 (gn (aG S))))) 80 10 (i32 (cwN (aG S) 3 (gn (aG S)))) = σ6 at s3 k8 k9 k10 ⊢
  generalize cwN (aG S) 1 (gn (aG S)) = m at k8 hle
  generalize cwN (aG S) 2 (gn (aG S)) = t at k9 hle
  generalize cwN (aG S) 3 (gn (aG S)) = s at k10 hle h3
  have h6 := h.sc s3
  have wp := (reg_sb ok p).w hG (by omega)
  have wq := (reg_sb ok q).w hG (by omega)
  obtain ⟨σ7, e7, f7, g7, _⟩ := c_findGaps hG (c_ct h6 hcons) (ln_reg hp) (ln_reg hq) (c_reg h6 hp) (c_reg h6 hq) (by omega) (by omega) wp wq
  obtain ⟨σ8, e8, o8, c8⟩ := c_putU (σ := σ7) (G := aG S) (y := 0) (by unfold two64ok; omega)
  have g8 : GapOK (aG S) σ8 (aR S p) (aR S q) := g7.eqs (fun x h1 h2 => ⟨by rw [o8.1], o8.2 x (by omega)⟩)
  have hz : ∀ k, k < 6 → oi (gapv (aG S) (aR S p) (aR S q) k (fun _ => 0)) = 0 := fun k _ => by
    rw [zp, zq]
    unfold gapv
    split
    · rw [Int.sub_self]; rfl
    · rfl
  have i8 : ∀ x, x < 104 → σ8.1 x = σ6.1 x := fun x hx => by rw [o8.1]; exact f7.1 x (by omega)
  have sc8 : SC σ σ8 := (s3.trans f7.sc).trans (OL.sc o8 (fun x hx => by omega))
  have m8 : σ8.1 80 8 = i32 m := by rw [i8 80 (by omega)]; exact k8
  have m9 : σ8.1 80 9 = i32 t := by rw [i8 80 (by omega)]; exact k9
  have m10 : σ8.1 80 10 = i32 s := by rw [i8 80 (by omega)]; exact k10
  have e8' : f_X7_putU σ7 0 = some σ8 := e8
  obtain ⟨b, eb, hbt⟩ := c_areClosed (s := 0) (m := m) g8 c8 (by omega) (by omega)
  have hbt' : b = true := hbt.mpr (fun k _ hk => hz k (by omega))
  have eb' : f_X7_areClosed σ8 0 (i32 m) = some b := eb
  rw [e7, e_bs, e8', e_bs, e_gF, m8, eb', e_bs, hbt']
  obtain ⟨σ11, e11, o11⟩ := t_findTurns (σ := σ8) (m := m) (t := t) g8.gg (by omega) m8 m9
  have g9 : GapOK (aG S) (wI σ8 81 0 (i32 (t + m))) (aR S p) (aR S q) := g8.eqs (fun x h1 h2 => ⟨by funext y; rw [wI_1, if_neg (by omega)], rfl⟩)
  have g11 : GapOK (aG S) σ11 (aR S p) (aR S q) := g9.eqs (fun x h1 h2 => ⟨by rw [o11.1], o11.2 x (by omega)⟩)
  have sc11 : SC σ σ11 := (sc8.trans (SC.wI8 (by omega))).trans o11.sc8
  have n8 : σ11.1 80 8 = i32 m := by rw [o11.1, wI_1, if_neg (by omega)]; exact m8
  have n9 : σ11.1 80 9 = i32 t := by rw [o11.1, wI_1, if_neg (by omega)]; exact m9
  have n10 : σ11.1 80 10 = i32 s := by rw [o11.1, wI_1, if_neg (by omega)]; exact m10
  have n81 : σ11.1 81 0 = i32 (t + m) := by rw [o11.1, wI_1, if_pos ⟨rfl, rfl⟩]
  obtain ⟨σ13, e13, o13⟩ := z_turnWeightTwo (σ := σ11) (m := m) (t := t) g11 hz (by omega) n8 n9 n81
  rw [if_pos rfl, e11, e_bs, e13, e_bq]
  have sc13 := sc11.trans o13.sc8
  have r8 : σ13.1 80 8 = i32 m := by rw [o13.1]; exact n8
  have r9 : σ13.1 80 9 = i32 t := by rw [o13.1]; exact n9
  have r10 : σ13.1 80 10 = i32 s := by rw [o13.1]; exact n10
  obtain ⟨σ17, e17, o17⟩ := t_copyGaps (σ := σ13) (p := m + t) (q := s) (x := 102) (g11.gg.keep o13) (by omega) (by omega) (by omega)
  have sc17 := sc13.trans o17.sc8
  have h17 := h.sc sc17
  obtain ⟨σ18, e18, f18, g18, _⟩ := c_findGaps hG (c_ct h17 hcons) (ln_reg hq) (ln_reg hq) (c_reg h17 hq) (c_reg h17 hq) (by omega) (by omega) wq wq
  have j18 : ∀ x, x < 104 → σ18.1 x = σ11.1 x := fun x hx => by rw [f18.1 x (by omega), o17.1, o13.1]
  obtain ⟨σ19, e19, o19⟩ := t_findShifts (σ := σ18) (m := m) (t := t) (s := s) g18.gg (by omega) (by rw [j18 80 (by omega)]; exact n8) (by rw [j18 80 (by omega)]; exact n9) (by rw [j18 80 (by omega)]; exact n10) (by rw [j18 81 (by omega)]; exact n81)
  have sc19 : SC σ σ19 := ((sc17.trans f18.sc).trans (SC.wI8 (by omega))).trans o19.sc8
  have e21 := z_reduce0 (σ := σ19) (a := 90) (x := 102) (by rw [o19.1, wI_1, if_pos ⟨rfl, rfl⟩, h3])
  rw [if_pos rfl, e_gF, e_gF, e_gF, r8, r9, r10, i32_add, e17, e_bs, e18, e_bs, e19, e_bs, e21, e_bq]
  exact ⟨σ19, rfl, sc19⟩
end ONC
