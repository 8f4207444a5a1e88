section
/-! square brackets closed, factors, words; both readers -/
section WRD
variable {σ : Mem} {w : List Nat}
/-- the reference's way out of square brackets -/
noncomputable def rsq (rec : Mem → Int32 → Option Mem) (x : Option Mem) : Option Mem := (x.bind (fun (z9 : Mem) => j_X11_readOpen_72 rec z9)).bind (fun (σ5 : Mem) => j_X11_readFactor_134 rec σ5)
theorem r_sq_dead {S : AS} {rec : Mem → Int32 → Option Mem} {ρ : Mem} {f : SF} {q d p : Nat} {rr : Mem ⊕ Mem} (hR : BR (aG S) (aR S) w ρ) (hrr : rr = Sum.inl (PS ρ f) ∨ rr = Sum.inr (PS ρ f)) (h : DE w ρ q (d + 1) p) : ∃ ρ' p', rsq rec ((some rr).bind (Sum.elim (fun (z1 : Mem) => j_X11_readCommutator_82 rec z1) some)) = some (PS ρ' f) ∧ FRr ρ ρ' ∧ DE w ρ' q d p' ∧ p ≤ p' := by
  rcases hrr with rfl | rfl
  · obtain ⟨ρ2, p2, e3, fr2, de2, hp2, _⟩ := r_must_dead (f := f) (c := 93) hR.2.2.1 h (by decide)
    obtain ⟨ρ3, e4, fr3, de3, _⟩ := out_dead (f := f) (rec := rec) de2
    refine ⟨ρ3, p2, ?_, fr2.trans fr3, de3, hp2⟩
    unfold rsq
    rw [e_bs]
    show ((j_X11_readCommutator_82 rec (PS ρ f)).bind _).bind _ = _
    unfold j_X11_readCommutator_82
    rw [e3, e_bs, e_bs]
    exact e4
  · obtain ⟨ρ3, e4, fr3, de3, _⟩ := out_dead (f := f) (rec := rec) h
    refine ⟨ρ3, p, ?_, fr3, de3, Nat.le_refl _⟩
    unfold rsq
    rw [e_bs]
    exact e4
theorem r_square {S : AS} {ρ ρ1 : Mem} {f f1 : SF} {rec : Mem → Int32 → Option Mem} {s d p : Nat} (hR : BR (aG S) (aR S) w ρ) (h25 : ρ.1 306 25 = i32 d) (h21 : ρ.1 306 21 = i32 p) (hd : d < 8) (hp : p < w.length) (hx : sn w p = 91) (e2 : rec (PS (opn ρ d p) f) (i32 s) = some (PS ρ1 f1)) : o_X11_readFactor rec (PS ρ f) (i32 s) = rsq rec ((loopO (fun (z4 : (Mem × Int32)) => l_X11_readCommutator_2 rec (i32 s) z4.1 z4.2) (PS ρ1 f1, i32 0)).bind (Sum.elim (fun (z1 : Mem) => j_X11_readCommutator_82 rec z1) some)) := by
  rw [r_factorB hR.2.2.1 h21 (by omega) hx (Or.inr rfl), r_open h25 h21 hd, e2, e_bs, if_neg (by decide)]
  rfl
theorem d_square {S : AS} {ρ : Mem} {f : SF} {recR : Mem → Int32 → Option Mem} {s p q d : Nat} (hG : GOK (aG S)) (jo : JWo S w recR (d + 1)) (jw : JWw recR) (hR : BR (aG S) (aR S) w ρ) (hd : d < 8) (hs : s ≤ 11 + 2 * d) (hL : DE w ρ q d p) (hp : p < w.length) (hx : sn w p = 91) : ∃ ρ' f' p', o_X11_readFactor recR (PS ρ f) (i32 s) = some (PS ρ' f') ∧ FRr ρ ρ' ∧ (∀ t, t < s → f' t = f t) ∧ DE w ρ' q d p' ∧ p ≤ p' ∧ (ρ'.1 306 20 = -1 → p < p' ∧ SmV (aG S) (f' s)) := by
  have hwl := hR.2.2.1.1
  obtain ⟨ρ1, f1, p1, e2, fr, kf, de1, hp1, s1⟩ := jo (opn ρ d p) f s q (p + 1) (by omega) (hR.frr opn_fr) (opn_de hL hp)
  have fr' : FRr ρ ρ1 := opn_fr.trans fr
  obtain ⟨rr, ρ2, f2, p2, b1, b2, b3, b4, b5, b6, b7⟩ := d_commas hG jo jw hd hs hwl (w.length - p1 + 1) p1 0 ρ1 f1 (by omega) (by omega) (hR.frr fr') de1 s1
  obtain ⟨ρ3, p3, e3, fr3, de3, hp3⟩ := r_sq_dead (rec := recR) ((hR.frr fr').frr b3) b2 b5
  refine ⟨ρ3, f2, p3, ?_, fr'.trans (b3.trans fr3), fun t ht => (b4 t ht).trans (kf t ht), de3, by omega, fun _ => ⟨by omega, b7⟩⟩
  rw [r_square hR hL.2.2.2.2.1 hL.2.2.1 hd hp hx e2, b1]
  exact e3
theorem j_square {S : AS} {ρ : Mem} {f : SF} {recC : Mem → Int32 → Option (Bool × Mem)} {recR : Mem → Int32 → Option Mem} {s p b bc d : Nat} (hG : GOK (aG S)) (hJ : Jac (aG S)) (jl : JWl S w recC recR (d + 1)) (jo : JWo S w recR (d + 1)) (jw : JWw recR) (hC : BC (aG S) (aR S) w σ) (hR : BR (aG S) (aR S) w ρ) (hd : d < 8) (hs : s ≤ 11 + 2 * d) (h9 : σ.1 144 9 = i32 p) (h10 : BH σ bc) (hL : LV ρ d p b) (hp : p < w.length) (hx : sn w p = 91) : ∃ r σ' ρ' f', o_X5_readFactor recC σ (i32 d) = some (r, σ') ∧ o_X11_readFactor recR (PS ρ f) (i32 s) = some (PS ρ' f') ∧ FRx (Pf d) σ σ' ∧ FRr ρ ρ' ∧ (∀ t, t < s → f' t = f t) ∧ FOut S w d s p r σ' ρ' f' := by
  have hw := hC.2.1.1
  obtain ⟨rW, _, _, lW, _, _⟩ := rows_d (d := d + 1) (by omega)
  obtain ⟨_, rF, rCm, _, _, lC⟩ := rows_d (d := d) (by omega)
  have g9 : (wI σ 144 9 (i32 (p + 1))).1 144 9 = i32 (p + 1) := by rw [wI_1, if_pos ⟨rfl, rfl⟩]
  have g10 : BH (wI σ 144 9 (i32 (p + 1))) bc := h10.at
  have f0 : FRx (Pf d) σ (wI σ 144 9 (i32 (p + 1))) := FRx.fld (by omega)
  obtain ⟨r, σ1, ρ1, f1, e1, e2, fx, fr, kf, hout⟩ := jl (wI σ 144 9 (i32 (p + 1))) (opn ρ d p) f s (p + 1) bc (p + 1) (by omega) (hC.frx f0 (fun x hx => Pf_72 hx)) (hR.frr opn_fr) (by omega) g9 g10 (opn_lv hL) (Nat.le_refl _)
  have fx' : FRx (Pf d) σ σ1 := f0.trans (fx.mono (fun x hx => Pw_Pf hx))
  have fr' : FRr ρ ρ1 := opn_fr.trans fr
  have hR1 := hR.frr fr'
  have er := r_square hR hL.2.2.2.1 hL.1 hd hp hx e2
  have ec : o_X5_readFactor recC σ (i32 d) = if r = true then (f_X0_copy σ1 (147 + d) (166 + d)).bind (fun (σ5 : Mem) => (f_X5_signHere σ5).bind (fun (v6 : Int32) => if v6 = 44 then (((loopO (fun (z21 : (Mem × Int32)) => l_X5_readSquare_52 recC (i32 d) (166 + d) z21.1 z21.2) (σ5, 0) : Option (Mem ⊕ (Mem ⊕ (Bool × Mem)))).bind (Sum.elim (fun (z16 : Mem) => j_X5_readSquare_117 recC z16) some) : Option (Mem ⊕ (Bool × Mem))).bind (Sum.elim (fun (z7 : Mem) => j_X5_readSquare_133 recC (i32 d) (166 + d) z7) some)) else (gF σ5 144 9 (fun (v30 : Int32) => bq (f_X5_fail σ5 1 v30) (fun (b31 : Bool) (σ32 : Mem) => some (b31, σ32)))))) else some (false, σ1) := by
    rw [c_factorB hC.2.1 h9 (by omega) hx (Or.inr rfl) (by omega), if_pos hd, if_neg (by decide)]
    unfold o_X5_readSquare
    rw [e_gR ln_145s.2.2 (by omega) (by omega), rCm, show i32 d + 1 = i32 (d + 1) from by rw [i32_1, i32_add], e1, e_bq, e_gR ln_145s.1 (by omega) (by omega), rW, show 146 + (d + 1) = 147 + d by omega]
  rcases hout with ⟨q, b1, b1', v, rfl, k9, k10, hL1, hb1, hpq, hq, h32, hA, sv, hf1, hbv⟩ | ⟨k, t, rfl, hW⟩ | ⟨t, rfl, hO, so⟩
  · have hC1 := hC.frx fx' (fun x hx => Pf_72 hx)
    have lW' : ln (147 + d) = 6 := by rw [show 147 + d = 146 + (d + 1) by omega]; exact lW
    have hA' : H6 σ1 (147 + d) v := by rw [show 147 + d = 146 + (d + 1) by omega]; exact hA
    obtain ⟨σ2, e5, o2, c2⟩ := c_copy (σ := σ1) (a := 147 + d) (b := 166 + d) (A := v) lW' lC hA'
    have fx2 : FRx (Pf d) σ1 σ2 := o2.frx (fun y hy => by unfold Pf; omega)
    have hC2 := hC1.frx fx2 (fun x hx => Pf_72 hx)
    have m9 : σ2.1 144 9 = i32 q := by rw [o2.1]; exact k9
    have m10 : BH σ2 b1' := k10.of (by rw [o2.1])
    rw [if_pos rfl, e5, e_bs, c_sign hC2.2.1 hq m9, e_bs] at ec
    by_cases h44 : sn w q = 44
    · rw [if_pos h44] at ec
      obtain ⟨rc, rr, σ3, ρ3, f3, c1, c2', fx3, fr3, kf3, hco⟩ := j_commas hG hJ jl jo jw hd hs hw (w.length - q + 1) q 0 b1 b1' σ2 ρ1 f1 v (by omega) (by omega) hq hC2 hR1 m9 m10 hL1 hb1 h32 (fun _ => h44) c2 sv hf1
      have c1' : loopO (fun (z21 : (Mem × Int32)) => l_X5_readSquare_52 recC (i32 d) (166 + d) z21.1 z21.2) (σ2, 0) = some rc := c1
      rw [c1', e_bs] at ec
      rw [c2'] at er
      have FX := fx'.trans (fx2.trans fx3)
      have FR := fr'.trans fr3
      have KF : ∀ t, t < s → f3 t = f t := fun t ht => (kf3 t ht).trans (kf t ht)
      rcases hco with ⟨q2, b2, b2', c, rfl, rfl, x3, x3', x4, x5, x6, x7, x8, x9, x10⟩ | ⟨k, t, rfl, rfl, hW⟩ | ⟨t, rfl, hrr, hO, so⟩ | ⟨t, p', rfl, hrr, x3, x4, x5⟩
      · have hC3 := hC2.frx fx3 (fun x hx => Pf_72 hx)
        have hR3 := hR1.frr fr3
        obtain ⟨r2, σ4, ρ4, f4, e6, e7, fx4, fr4, kf4, ho⟩ := j_close (rec := recR) (p := p) (s := s) (c := 93) (b := b2) hd hC3 hR3 x3 x3' x4 (by omega) x6 x7 lC x8 x9 x10 (by decide)
        refine ⟨r2, σ4, ρ4, f4, ?_, ?_, FX.trans fx4, FR.trans fr4, fun t ht => (kf4 t ht).trans (KF t ht), ho⟩
        · rw [ec]
          show (some (Sum.inl σ3) : Option (Mem ⊕ (Bool × Mem))).bind _ = _
          rw [e_bs]
          show j_X5_readSquare_133 recC (i32 d) (166 + d) σ3 = _
          unfold j_X5_readSquare_133
          rw [c_sign hC3.2.1 x6 x3, e_bs, ← e6]
          by_cases h93 : sn w q2 = 93
          · rw [if_pos h93, if_pos h93, e_gR ln_145s.2.1 (by omega) (by omega), rF]
          · rw [if_neg h93, if_neg h93]
        · rw [er, ← e7]
          unfold rsq
          rw [e_bs]
          show ((j_X11_readCommutator_82 recR (PS ρ3 f3)).bind _).bind _ = _
          unfold j_X11_readCommutator_82
          cases f_X11_must (PS ρ3 f3) 93 <;> rfl
      · obtain ⟨ρ4, e6, fr4, wr4⟩ := out_wrong (f := f3) (rec := recR) hW.2.2.2 rfl
        refine ⟨false, σ3, ρ4, f3, by rw [ec]; rfl, ?_, FX, FR.trans fr4, KF, Or.inr (Or.inl ⟨k, t, rfl, hW.1, hW.2.1, hW.2.2.1, wr4⟩)⟩
        rw [er]
        unfold rsq
        rw [e_bs]
        exact e6
      · obtain ⟨o1, o2, p1, de1⟩ := hO
        obtain ⟨ρ4, p4, e6, fr4, de4, _⟩ := r_sq_dead (rec := recR) (hR1.frr fr3) hrr de1
        exact ⟨false, σ3, ρ4, f3, by rw [ec]; rfl, by rw [er]; exact e6, FX, FR.trans fr4, KF, Or.inr (Or.inr ⟨t, rfl, ⟨o1, o2, p4, de4⟩, fun _ => so⟩)⟩
      · obtain ⟨ρ4, p4, e6, fr4, de4, _⟩ := r_sq_dead (rec := recR) (hR1.frr fr3) hrr x4
        refine ⟨false, wI (wI σ3 144 0 5) 144 1 (i32 t), ρ4, f3, ?_, by rw [er]; exact e6, FX.trans ((FRx.fld (by omega)).trans (FRx.fld (by omega))), FR.trans fr4, KF, Or.inr (Or.inr ⟨t, rfl, ⟨fail_at.1, fail_at.2, p4, de4⟩, fun _ => x5⟩)⟩
        rw [ec]
        show (j_X5_readSquare_117 recC σ3 : Option (Mem ⊕ (Bool × Mem))).bind _ = _
        unfold j_X5_readSquare_117
        rw [e_gF, x3, c_fail, e_bq, e_bs]
        rfl
    · rw [if_neg h44, e_gF, m9, c_fail, e_bq] at ec
      have ew : f_X11_isWrong (PS ρ1 f1) = some false := r_isWrong_no hL1.2.1
      obtain ⟨ρ2, e6, fr2, wr2, w21⟩ := r_errs_live (f := f1) (k := 1) (t := q) hL1 (by omega)
      have e6' : f_X11_errs (PS ρ1 f1) 1 (i32 q) = some (PS ρ2 f1) := e6
      have em := r_must_no (f := f1) hR1.2.2.1 hL1.2.1 hL1.1 (Sk_same hq h32) h44
      rw [wI_id hL1.1, e6'] at em
      have w21' : ρ2.1 306 21 = i32 q := by rw [w21]; exact hL1.1
      have e22 := r_j22 (S := S) (recR := recR) (m := 0) (s := s) (v8 := q) (by omega) em w21'
      have e4 := jw (wI ρ2 306 23 (i32 q)) f1 (s + 1) q (by omega) (by omega) (by rw [wI_1, if_neg (by omega)]; exact wr2.2.2.1)
      have ew2 : f_X11_isWrong (PS (wI ρ2 306 23 (i32 q)) (uS f1 (s + 1) (fun _ => 0))) = some true := r_isWrong_yes (t := q) (by omega) (by show (wI ρ2 306 23 (i32 q)).1 306 20 = i32 q; rw [wI_1, if_neg (by omega)]; exact wr2.2.2.1)
      have hend : l_X11_readCommutator_2 recR (i32 s) (PS ρ1 f1) (i32 0) = some (Sum.inr (Sum.inr (PS (wI ρ2 306 23 (i32 q)) (uS f1 (s + 1) (fun _ => 0))))) := by
        unfold l_X11_readCommutator_2
        rw [ew, e_bs, if_neg (by decide), if_pos (show i32 0 = 0 from rfl), e_bs]
        show j_X11_readCommutator_22 recR (i32 s) (i32 0) (PS ρ1 f1) = _
        rw [e22, e4, e_bs, ew2, e_bs, if_pos rfl]
      have wr3 : WR (wI ρ2 306 23 (i32 q)) 1 q (d + 1) := wr2.bh
      obtain ⟨ρ4, e7, fr4, wr4⟩ := out_wrong (f := uS f1 (s + 1) (fun _ => 0)) (rec := recR) wr3 rfl
      refine ⟨false, wI (wI σ2 144 0 1) 144 1 (i32 q), ρ4, uS f1 (s + 1) (fun _ => 0), ec, ?_, fx'.trans (fx2.trans ((FRx.fld (by omega)).trans (FRx.fld (by omega)))), fr'.trans (fr2.trans ((FRr.fld (by omega)).trans fr4)), fun t ht => by rw [uS_ne (by omega)]; exact kf t ht, Or.inr (Or.inl ⟨1, q, rfl, by omega, fail_at.1, fail_at.2, wr4⟩)⟩
      have hle : loopO (fun (z4 : (Mem × Int32)) => l_X11_readCommutator_2 recR (i32 s) z4.1 z4.2) (PS ρ1 f1, i32 0) = some (Sum.inr (PS (wI ρ2 306 23 (i32 q)) (uS f1 (s + 1) (fun _ => 0)))) := lp_end (body := fun (z4 : (Mem × Int32)) => l_X11_readCommutator_2 recR (i32 s) z4.1 z4.2) hend
      rw [er, hle]
      unfold rsq
      rw [e_bs]
      exact e7
  · have ew : f_X11_isWrong (PS ρ1 f1) = some true := r_isWrong_yes (t := t) (by have := hW.2.2.2.1; omega) hW.2.2.2.2.2.1
    have hend : l_X11_readCommutator_2 recR (i32 s) (PS ρ1 f1) (i32 0) = some (Sum.inr (Sum.inl (PS ρ1 f1))) := by
      unfold l_X11_readCommutator_2
      rw [ew, e_bs, if_pos rfl]
    have hle : loopO (fun (z4 : (Mem × Int32)) => l_X11_readCommutator_2 recR (i32 s) z4.1 z4.2) (PS ρ1 f1, i32 0) = some (Sum.inl (PS ρ1 f1)) := lp_end (body := fun (z4 : (Mem × Int32)) => l_X11_readCommutator_2 recR (i32 s) z4.1 z4.2) hend
    obtain ⟨ρ4, e7, fr4, wr4⟩ := out_wrong (f := f1) (rec := recR) hW.2.2.2 rfl
    refine ⟨false, σ1, ρ4, f1, by rw [ec, if_neg (by decide)], ?_, fx', fr'.trans fr4, kf, Or.inr (Or.inl ⟨k, t, rfl, hW.1, hW.2.1, hW.2.2.1, wr4⟩)⟩
    rw [er, hle]
    unfold rsq
    rw [e_bs]
    show ((j_X11_readCommutator_82 recR (PS ρ1 f1)).bind _).bind _ = _
    unfold j_X11_readCommutator_82
    rw [r_must_wrong hW.2.2.2, e_bs, e_bs]
    exact e7
  · obtain ⟨o1, o2, p1, de1⟩ := hO
    obtain ⟨rr, ρ2, f2, p2, b1, b2, b3, b4, b5, b6, b7⟩ := d_commas hG jo jw hd hs hw (w.length - p1 + 1) p1 0 ρ1 f1 (by omega) (by omega) hR1 de1 so
    obtain ⟨ρ3, p3, e3, fr3, de3, _⟩ := r_sq_dead (rec := recR) (hR1.frr b3) b2 b5
    refine ⟨false, σ1, ρ3, f2, by rw [ec, if_neg (by decide)], ?_, fx', fr'.trans (b3.trans fr3), fun t ht => (b4 t ht).trans (kf t ht), Or.inr (Or.inr ⟨t, rfl, ⟨o1, o2, p3, de3⟩, fun _ => b7⟩)⟩
    rw [er, b1]
    exact e3
/-! any factor -/
theorem isFa_cases {x : Int32} (h : isFa x = true) : (∃ y, y ≤ 5 ∧ x = i32 (97 + y)) ∨ x = 82 ∨ x = 40 ∨ x = 91 := by
  have h1 := of_decide_eq_true h
  rcases h1 with h1 | h1 | h1 | h1
  · refine Or.inl ⟨x.toInt.toNat - 97, by omega, ?_⟩
    rw [show 97 + (x.toInt.toNat - 97) = x.toInt.toNat by omega]
    exact i32_of (by omega)
  · exact Or.inr (Or.inl h1)
  · exact Or.inr (Or.inr (Or.inl h1))
  · exact Or.inr (Or.inr (Or.inr h1))
theorem r_deep {ρ : Mem} {f : SF} {rec : Mem → Int32 → Option Mem} {s p : Nat} {c : Int32} (hT : RTx ρ w) (h25 : ρ.1 306 25 = i32 8) (h21 : ρ.1 306 21 = i32 p) (hp : p ≤ w.length) (hx : sn w p = c) (hc : c = 40 ∨ c = 91) : o_X11_readFactor rec (PS ρ f) (i32 s) = (f_X11_errs (PS ρ f) 4 (i32 p)).bind (fun (σ5 : Mem) => j_X11_readFactor_134 rec σ5) := by
  rw [r_factorB hT h21 hp hx hc]
  unfold o_X11_readOpen
  have g25 : (PS ρ f).1 306 25 = i32 8 := h25
  have g21 : (PS ρ f).1 306 21 = i32 p := h21
  rw [e_gF, g25, if_pos (show i32 8 = 8 from rfl), e_gF, g21]
  cases f_X11_errs (PS ρ f) 4 (i32 p) <;> rfl
theorem j_factor {S : AS} {ρ : Mem} {f : SF} {recC : Mem → Int32 → Option (Bool × Mem)} {recR : Mem → Int32 → Option Mem} {s p b bc d : Nat} (ok : OKS S) (hJ : Jac (aG S)) (hbt : ∀ x : Nat, x ∈ w → x < 256) (jl : d < 8 → JWl S w recC recR (d + 1)) (jo : d < 8 → JWo S w recR (d + 1)) (jw : d < 8 → JWw recR) (hC : BC (aG S) (aR S) w σ) (hR : BR (aG S) (aR S) w ρ) (hd : d ≤ 8) (hs : s ≤ 11 + 2 * d) (h9 : σ.1 144 9 = i32 p) (h10 : BH σ bc) (hL : LV ρ d p b) (hfa : isFa (sn w p) = true) : ∃ r σ' ρ' f', o_X5_readFactor recC σ (i32 d) = some (r, σ') ∧ o_X11_readFactor recR (PS ρ f) (i32 s) = some (PS ρ' f') ∧ FRx (Pf d) σ σ' ∧ FRr ρ ρ' ∧ (∀ t, t < s → f' t = f t) ∧ FOut S w d s p r σ' ρ' f' := by
  have hG : GOK (aG S) := ok.1.1
  have hp := isFa_lt hfa
  have hw := hC.2.1.1
  have deep : ∀ c : Int32, c = 40 ∨ c = 91 → sn w p = c → ¬ d < 8 → ∃ r σ' ρ' f', o_X5_readFactor recC σ (i32 d) = some (r, σ') ∧ o_X11_readFactor recR (PS ρ f) (i32 s) = some (PS ρ' f') ∧ FRx (Pf d) σ σ' ∧ FRr ρ ρ' ∧ (∀ t, t < s → f' t = f t) ∧ FOut S w d s p r σ' ρ' f' := by
    intro c hc hx h8
    have hd8 : d = 8 := by omega
    subst hd8
    obtain ⟨ρ', e, fr, wr, w21⟩ := r_errs_live (f := f) (k := 4) (t := p) hL (by omega)
    have e' : f_X11_errs (PS ρ f) 4 (i32 p) = some (PS ρ' f) := e
    refine ⟨false, wI (wI σ 144 0 4) 144 1 (i32 p), wI ρ' 306 23 (i32 p), f, ?_, ?_, (FRx.fld (by omega)).trans (FRx.fld (by omega)), fr.trans (FRr.fld (by omega)), fun _ _ => rfl, Or.inr (Or.inl ⟨4, p, rfl, by omega, fail_at.1, fail_at.2, wr.bh⟩)⟩
    · rw [c_factorB hC.2.1 h9 (by omega) hx hc (by omega), if_neg h8]
    · rw [r_deep hR.2.2.1 hL.2.2.2.1 hL.1 (by omega) hx hc, e', e_bs, r_pass (p := p) (by rw [w21]; exact hL.1)]
  rcases isFa_cases hfa with ⟨y, hy, hx⟩ | hx | hx | hx
  · exact j_letter hG hC hR hd (by omega) h9 h10 hL hp hx hy
  · exact j_register ok hC hR hbt hd (by omega) h9 h10 hL hp hx
  · by_cases h8 : d < 8
    · exact j_round (jl h8) hC hR h8 hs h9 h10 hL hp hx
    · exact deep 40 (Or.inl rfl) hx h8
  · by_cases h8 : d < 8
    · exact j_square hG hJ (jl h8) (jo h8) (jw h8) hC hR h8 hs h9 h10 hL hp hx
    · exact deep 91 (Or.inr rfl) hx h8
theorem d_factor {S : AS} {ρ : Mem} {f : SF} {recR : Mem → Int32 → Option Mem} {s p q d : Nat} (ok : OKS S) (hbt : ∀ x : Nat, x ∈ w → x < 256) (jo : d < 8 → JWo S w recR (d + 1)) (jw : d < 8 → JWw recR) (hR : BR (aG S) (aR S) w ρ) (hd : d ≤ 8) (hs : s ≤ 11 + 2 * d) (hL : DE w ρ q d p) (hfa : isFa (sn w p) = true) : ∃ ρ' f' p', o_X11_readFactor recR (PS ρ f) (i32 s) = some (PS ρ' f') ∧ FRr ρ ρ' ∧ (∀ t, t < s → f' t = f t) ∧ DE w ρ' q d p' ∧ p ≤ p' ∧ (ρ'.1 306 20 = -1 → p < p' ∧ SmV (aG S) (f' s)) := by
  have hG : GOK (aG S) := ok.1.1
  have hp := isFa_lt hfa
  have hw := hR.2.2.1.1
  have hqp := hL.1
  have deep : ∀ c : Int32, c = 40 ∨ c = 91 → sn w p = c → ¬ d < 8 → ∃ ρ' f' p', o_X11_readFactor recR (PS ρ f) (i32 s) = some (PS ρ' f') ∧ FRr ρ ρ' ∧ (∀ t, t < s → f' t = f t) ∧ DE w ρ' q d p' ∧ p ≤ p' ∧ (ρ'.1 306 20 = -1 → p < p' ∧ SmV (aG S) (f' s)) := by
    intro c hc hx h8
    have hd8 : d = 8 := by omega
    subst hd8
    obtain ⟨ρ', e, fr, de, nw⟩ := r_errs_dead (f := f) (k := 4) (t := p) hL (by omega) hqp
    have e' : f_X11_errs (PS ρ f) 4 (i32 p) = some (PS ρ' f) := e
    refine ⟨wI ρ' 306 23 (i32 p), f, p, ?_, fr.trans (FRr.fld (by omega)), fun _ _ => rfl, de.bh, Nat.le_refl _, fun z => absurd (by rw [wI_1, if_neg (by omega)] at z; exact z) nw⟩
    rw [r_deep hR.2.2.1 hL.2.2.2.2.1 hL.2.2.1 (by omega) hx hc, e', e_bs, r_pass (p := p) de.2.2.1]
  rcases isFa_cases hfa with ⟨y, hy, hx⟩ | hx | hx | hx
  · exact d_letter hG hR (by omega) hL hp hx hy
  · exact d_register ok hR hbt (by omega) hL hp hx
  · by_cases h8 : d < 8
    · exact d_round (jo h8) hR h8 hs hL hp hx
    · exact deep 40 (Or.inl rfl) hx h8
  · by_cases h8 : d < 8
    · exact d_square hG (jo h8) (jw h8) hR h8 hs hL hp hx
    · exact deep 91 (Or.inr rfl) hx h8
end WRD
end
section
/-! words, texts: the call -/
section TXT
variable {σ : Mem} {w : List Nat}
theorem d_power' {S : AS} {ρ : Mem} {f : SF} {s p q d : Nat} (hG : GOK (aG S)) (hJ : Jac (aG S)) (hR : BR (aG S) (aR S) w ρ) (hw : w.length ≤ 200) (hs : s + 4 < 100) (hL : DE w ρ q d p) (hf : ρ.1 306 20 = -1 → SmV (aG S) (f s)) : ∃ ρ' f' p', f_X11_readPower (PS ρ f) (i32 s) = some (PS ρ' f') ∧ FRr ρ ρ' ∧ (∀ t, t < s → f' t = f t) ∧ DE w ρ' q d p' ∧ p ≤ p' ∧ (ρ'.1 306 20 = -1 → ρ.1 306 20 = -1 ∧ SmV (aG S) (f' s)) := by
  have hL' := hL
  rcases hL.2.2.2.2.2 with n | ⟨t, t1, t2, t3⟩
  · obtain ⟨ρ', f', p', h1, h2, h3, h4, h5, h6⟩ := d_power hG hJ hR hw hs hL rfl (hf n)
    exact ⟨ρ', f', p', h1, h2, h3, h4, h5, fun _ => ⟨n, h6⟩⟩
  · refine ⟨ρ, f, p, ?_, FRr.refl, fun _ _ => rfl, hL', Nat.le_refl _, fun z => by rw [t3] at z; exact absurd z (ne_m1 (by omega))⟩
    unfold f_X11_readPower
    have e : f_X11_isWrong (PS ρ f) = some true := r_isWrong_yes (t := t) (by omega) t3
    rw [e, e_bs, if_pos rfl]
theorem r_times2 {S : AS} {ρ : Mem} {f : SF} {s : Nat} {x v : Nat → Int} (hG : GOK (aG S)) (hR : BR (aG S) (aR S) w ρ) (hs : s < 90) (hf : f s = v) (hf1 : f (s + 1) = x) (sv : SmV (aG S) v) (sx : SmV (aG S) x) : f_X11_times (PS ρ f) (i32 s) (i32 (s + 1)) = some (PS ρ (uS f s (mul (aG S) v x))) := by
  rw [p_times hR.1 hG hR.2.1 (by omega) (by omega) (by omega) (by rw [hf]; exact sv.sb.s30 (by omega)) (by rw [hf1]; exact sx.sb.s30 (by omega)), hf, hf1]
theorem d_wloop {S : AS} {recR : Mem → Int32 → Option Mem} {s d q : Nat} (ok : OKS S) (hJ : Jac (aG S)) (hbt : ∀ x : Nat, x ∈ w → x < 256) (jo : d < 8 → JWo S w recR (d + 1)) (jw : d < 8 → JWw recR) (hd : d ≤ 8) (hs : s ≤ 10 + 2 * d) (hwl : w.length ≤ 200) : ∀ (n p : Nat) (ρ : Mem) (f : SF), w.length - p < n → BR (aG S) (aR S) w ρ → DE w ρ q d p → SmV (aG S) (f s) → ∃ ρ' f' p', loopO (fun (z2 : Mem) => l_X11_readWord_5 recR (i32 s) z2) (PS ρ f) = some (PS ρ' f') ∧ FRr ρ ρ' ∧ (∀ t, t < s → f' t = f t) ∧ DE w ρ' q d p' ∧ p ≤ p' ∧ SmV (aG S) (f' s) := by
  have hG : GOK (aG S) := ok.1.1
  intro n
  induction n with
  | zero => intro p ρ f hn; exact absurd hn (Nat.not_lt_zero _)
  | succ n ih =>
    intro p ρ f hn hR hL sf
    have hL' := hL
    obtain ⟨a1, a2, a3, a4, a5, a6⟩ := hL
    rcases a6 with a6 | ⟨t, t1, t2, t3⟩
    · obtain ⟨q1, hsk⟩ := Sk_ex w (w.length - p) p a2 (Nat.le_refl _)
      have ew : f_X11_isWrong (PS ρ f) = some false := r_isWrong_no a6
      have g21 : (PS ρ f).1 306 21 = i32 p := a3
      have hbody : l_X11_readWord_5 recR (i32 s) (PS ρ f) = if isFa (sn w q1) = true then (o_X11_readFactor recR (PS (wI ρ 306 21 (i32 q1)) f) (i32 (s + 1))).bind (fun (σ7 : Mem) => (f_X11_readPower σ7 (i32 (s + 1))).bind (fun (σ8 : Mem) => (f_X11_isWrong σ8).bind (fun (b9 : Bool) => if b9 then some (Sum.inr σ8) else (f_X11_times σ8 (i32 s) (i32 (s + 1))).bind (fun (σ10 : Mem) => (f_X11_checks σ10 (i32 s)).bind (fun (σ11 : Mem) => some (Sum.inl σ11)))))) else some (Sum.inr (PS (wI ρ 306 21 (i32 q1)) f)) := by
        unfold l_X11_readWord_5
        rw [ew, e_bs, if_neg (by decide), r_skip (σ := PS ρ f) hR.2.2.1 g21 hsk, e_bq, PS_wI, r_isFactor, e_bs, show i32 s + 1 = i32 (s + 1) from by rw [i32_1, i32_add]]
      have fr1 : FRr ρ (wI ρ 306 21 (i32 q1)) := FRr.fld (by omega)
      have de1 := hL'.at hsk.1 hsk.2.1
      cases hfa : isFa (sn w q1) with
      | false =>
        rw [hfa, if_neg (by decide)] at hbody
        exact ⟨_, f, q1, lp_end hbody, fr1, fun _ _ => rfl, de1, hsk.1, sf⟩
      | true =>
        rw [hfa, if_pos rfl] at hbody
        obtain ⟨ρ2, f2, p2, e2, fr2, kf2, de2, hp2, h2⟩ := d_factor (f := f) (s := s + 1) ok hbt jo jw (hR.frr fr1) hd (by omega) de1 hfa
        have hR2 := (hR.frr fr1).frr fr2
        obtain ⟨ρ3, f3, p3, e3, fr3, kf3, de3, hp3, h3⟩ := d_power' (f := f2) (s := s + 1) hG hJ hR2 hwl (by omega) de2 (fun z => (h2 z).2)
        have hR3 := hR2.frr fr3
        have FR := fr1.trans (fr2.trans fr3)
        have hf3 : f3 s = f s := by rw [kf3 s (by omega), kf2 s (by omega)]
        rw [e2, e_bs, e3, e_bs] at hbody
        have hq1 := hsk.1
        rcases de3.2.2.2.2.2 with n3 | ⟨t, t1, t2, t3⟩
        · have ew3 : f_X11_isWrong (PS ρ3 f3) = some false := r_isWrong_no n3
          obtain ⟨h3a, h3b⟩ := h3 n3
          have e4 := r_times2 (ρ := ρ3) (f := f3) (s := s) hG hR3 (by omega) hf3 rfl sf h3b
          rw [ew3, e_bs, if_neg (by decide), e4, e_bs, r_checks_dead de3 hwl (by omega), e_bs] at hbody
          have hlt := (h2 h3a).1
          obtain ⟨ρ', f', p', b1, b2, b3, b4, b5, b6⟩ := ih p3 ρ3 (uS (uS f3 s (mul (aG S) (f s) (f3 (s + 1)))) s O) (by have := de3.2.1; omega) hR3 de3 (by rw [uS_self]; exact SmV.O)
          refine ⟨ρ', f', p', by rw [lp_go hbody]; exact b1, FR.trans b2, fun t ht => ?_, b4, by omega, b6⟩
          rw [b3 t ht, uS_ne (by omega), uS_ne (by omega), kf3 t (by omega), kf2 t (by omega)]
        · have ew3 : f_X11_isWrong (PS ρ3 f3) = some true := r_isWrong_yes (t := t) (by omega) t3
          rw [ew3, e_bs, if_pos rfl] at hbody
          exact ⟨ρ3, f3, p3, lp_end hbody, FR, fun t ht => by rw [kf3 t (by omega), kf2 t (by omega)], de3, by omega, by rw [hf3]; exact sf⟩
    · have ew : f_X11_isWrong (PS ρ f) = some true := r_isWrong_yes (t := t) (by omega) t3
      have hend : l_X11_readWord_5 recR (i32 s) (PS ρ f) = some (Sum.inr (PS ρ f)) := by
        unfold l_X11_readWord_5
        rw [ew, e_bs, if_pos rfl]
      exact ⟨ρ, f, p, lp_end hend, FRr.refl, fun _ _ => rfl, hL', Nat.le_refl _, sf⟩
theorem Sk_ahead {p q r : Nat} (hqp : q ≤ p) (hb : ∀ t, q ≤ t → t < p → sn w t = 32) (h : Sk w p r) : Sk w q r := ⟨Nat.le_trans hqp h.1, h.2.1, fun t t1 t2 => by
  by_cases htp : t < p
  · exact hb t t1 htp
  · exact h.2.2.1 t (by omega) t2, h.2.2.2⟩
theorem j_wloop {S : AS} {recC : Mem → Int32 → Option (Bool × Mem)} {recR : Mem → Int32 → Option Mem} {s d : Nat} (ok : OKS S) (hJ : Jac (aG S)) (hbt : ∀ x : Nat, x ∈ w → x < 256) (jl : d < 8 → JWl S w recC recR (d + 1)) (jo : d < 8 → JWo S w recR (d + 1)) (jw : d < 8 → JWw recR) (hd : d ≤ 8) (hs : s ≤ 10 + 2 * d) (hwl : w.length ≤ 200) : ∀ (n q p m b bc : Nat) (σ ρ : Mem) (f : SF) (v : Nat → Int), w.length - q < n → m ≤ q → q ≤ p → p ≤ w.length → (∀ t, q ≤ t → t < p → sn w t = 32) → BC (aG S) (aR S) w σ → BR (aG S) (aR S) w ρ → σ.1 144 9 = i32 p → BH σ bc → LV ρ d q b → b ≤ q → (bc = b ∨ v = O) → H6 σ (146 + d) v → SmV (aG S) v → f s = v → ∃ r σ' ρ' f', (loopO (fun (z8 : (Mem × Int32)) => l_X5_readWord_26 recC (i32 d) (146 + d) z8.1 z8.2) (σ, i32 m) : Option (Mem ⊕ (Bool × Mem))).bind (Sum.elim (fun (z3 : Mem) => j_X5_readWord_91 recC z3) some) = some (r, σ') ∧ loopO (fun (z2 : Mem) => l_X11_readWord_5 recR (i32 s) z2) (PS ρ f) = some (PS ρ' f') ∧ FRx (Pw d) σ σ' ∧ FRr ρ ρ' ∧ (∀ t, t < s → f' t = f t) ∧ WOut S w d s q r σ' ρ' f' := by
  have hG : GOK (aG S) := ok.1.1
  obtain ⟨rW, rF, rCm, lW, lF, lC⟩ := rows_d hd
  intro n
  induction n with
  | zero => intro q p m b bc σ ρ f v hn; exact absurd hn (Nat.not_lt_zero _)
  | succ n ih =>
    intro q p m b bc σ ρ f v hn hmq hqp hp hbl hC hR h9 h10 hL hb hbv hA sv hf
    obtain ⟨q1, hsk⟩ := Sk_ex w (w.length - p) p hp (Nat.le_refl _)
    have hskq : Sk w q q1 := Sk_ahead hqp hbl hsk
    have hq1 := hsk.1
    have hq1l := hsk.2.1
    -- the reference's body
    have ew : f_X11_isWrong (PS ρ f) = some false := r_isWrong_no hL.2.1
    have g21 : (PS ρ f).1 306 21 = i32 q := hL.1
    have hrb : l_X11_readWord_5 recR (i32 s) (PS ρ f) = if isFa (sn w q1) = true then (o_X11_readFactor recR (PS (wI ρ 306 21 (i32 q1)) f) (i32 (s + 1))).bind (fun (σ7 : Mem) => (f_X11_readPower σ7 (i32 (s + 1))).bind (fun (σ8 : Mem) => (f_X11_isWrong σ8).bind (fun (b9 : Bool) => if b9 then some (Sum.inr σ8) else (f_X11_times σ8 (i32 s) (i32 (s + 1))).bind (fun (σ10 : Mem) => (f_X11_checks σ10 (i32 s)).bind (fun (σ11 : Mem) => some (Sum.inl σ11)))))) else some (Sum.inr (PS (wI ρ 306 21 (i32 q1)) f)) := by
      unfold l_X11_readWord_5
      rw [ew, e_bs, if_neg (by decide), r_skip (σ := PS ρ f) hR.2.2.1 g21 hskq, e_bq, PS_wI, r_isFactor, e_bs, show i32 s + 1 = i32 (s + 1) from by rw [i32_1, i32_add]]
    have fr1 : FRr ρ (wI ρ 306 21 (i32 q1)) := FRr.fld (by omega)
    have hL1 := hL.at (q := q1)
    by_cases hm : m < 200
    · -- the class's body
      have hcb : l_X5_readWord_26 recC (i32 d) (146 + d) σ (i32 m) = if isFa (sn w q1) = true then bq (o_X5_readFactor recC (wI σ 144 9 (i32 q1)) (i32 d)) (fun (b12 : Bool) (σ13 : Mem) => if b12 then bq (f_X5_readPower σ13 (156 + d)) (fun (b15 : Bool) (σ16 : Mem) => if b15 then (f_X0_product σ16 (146 + d) (146 + d) (156 + d)).bind (fun (σ18 : Mem) => (f_X0_isWithin σ18 (146 + d) 999).bind (fun (b19 : Bool) => if b19 then some (Sum.inl (σ18, i32 (m + 1))) else some (Sum.inr (Sum.inl σ18)))) else some (Sum.inr (Sum.inr (false, σ16)))) else some (Sum.inr (Sum.inr (false, σ13)))) else some (Sum.inr (Sum.inr (true, wI σ 144 9 (i32 q1)))) := by
        unfold l_X5_readWord_26
        rw [show (200 : Int32) = i32 200 from rfl, if_neg (i_nle hm (by omega)), c_skip hC.2.1 h9 hsk, e_bq, c_isFactor, e_bs, i32_1, i32_add]
        simp only [e_gR ln_145s.2.1 (show d < 9 by omega) (show 9 < 2 ^ 31 by omega), rF]
      have fx1 : FRx (Pw d) σ (wI σ 144 9 (i32 q1)) := FRx.fld (by omega)
      have g9 : (wI σ 144 9 (i32 q1)).1 144 9 = i32 q1 := by rw [wI_1, if_pos ⟨rfl, rfl⟩]
      have g10 : BH (wI σ 144 9 (i32 q1)) bc := h10.at
      cases hfa : isFa (sn w q1) with
      | false =>
        rw [hfa, if_neg (by decide)] at hcb hrb
        refine ⟨true, _, _, f, by rw [lp_end hcb]; rfl, lp_end hrb, fx1, fr1, fun _ _ => rfl, Or.inl ⟨q1, b, bc, v, rfl, g9, g10, hL1, by omega, by omega, hq1l, hsk.2.2.2, hA, sv, hf, hbv⟩⟩
      | true =>
        rw [hfa, if_pos rfl] at hcb hrb
        have hC1 := hC.frx fx1 (fun x hx => Pw_72 hx)
        have hR1 := hR.frr fr1
        obtain ⟨r2, σ2, ρ2, f2, e2, e3, fx2, fr2, kf2, hfo⟩ := j_factor (f := f) (s := s + 1) ok hJ hbt jl jo jw hC1 hR1 hd (by omega) g9 g10 hL1 hfa
        have FX2 : FRx (Pw d) σ σ2 := fx1.trans (fx2.mono (fun x hx => Pf_Pw hx))
        have FR2 := fr1.trans fr2
        have hR2 := hR1.frr fr2
        have hf2 : f2 s = v := by rw [kf2 s (by omega), hf]
        rw [e2, e_bq] at hcb
        rw [e3, e_bs] at hrb
        rcases hfo with ⟨q2, x, rfl, k9, k10, hL2, hlt2, hq2, hx6, sx, hfx⟩ | ⟨k, t, rfl, hW⟩ | ⟨t, rfl, hO, so⟩
        · rw [if_pos rfl] at hcb
          have hC2 := hC1.frx fx2 (fun x hx => Pf_72 hx)
          obtain ⟨r3, σ3, ρ3, f3, e4, e5, fx3, fr3, kf3, hpo⟩ := j_power (σ := σ2) (ρ := ρ2) (f := f2) (a := 156 + d) (s := s + 1) (p := q2) (b := q2) (bc := q2) (d := d) hG hJ hC2 hR2 hq2 lF (by omega) (by omega) k9 k10 hL2 (Nat.le_refl _) hx6 hfx sx
          have FX3 : FRx (Pw d) σ σ3 := FX2.trans (fx3.mono (fun x hx => by unfold Pw; omega))
          have FR3 := FR2.trans fr3
          have hR3 := hR2.frr fr3
          have hf3 : f3 s = v := by rw [kf3 s (by omega), hf2]
          have hA3 : H6 σ3 (146 + d) v := by
            have h1 : σ3.2 (146 + d) = σ2.2 (146 + d) := fx3.2.2 _ (by omega)
            have h2 : σ2.2 (146 + d) = (wI σ 144 9 (i32 q1)).2 (146 + d) := fx2.2.2 _ (by unfold Pf; omega)
            exact hA.row (by rw [h1, h2]; rfl)
          rw [e4, e_bq] at hcb
          rw [e5, e_bs] at hrb
          rcases hpo with ⟨p', q3, b', v', rfl, m9, m10, hL3, hb3, hq23, hq3p, hp'l, hbl3, hx3, sx3, hfx3⟩ | ⟨k, t, rfl, hW⟩ | ⟨t, rfl, hO, so⟩
          · rw [if_pos rfl] at hcb
            have hC3 := hC2.frx fx3 (P := fun x => (72 ≤ x ∧ x ≤ 79) ∨ x = 156 + d) (fun x hx => by omega)
            have n146 : notSum (146 + d) := fun k hk => by omega
            obtain ⟨σ4, e6, o4, c4⟩ := c_product hG (hC3.poly hG) (out := 146 + d) (a := 146 + d) (b := 156 + d) lW lW lF hA3 hx3 (by omega) n146 (by omega) (by omega) (sv.sb.w hG (by omega)) (sx3.sb.w hG (by omega)) sv.z6
            have zM : Z6 (aG S) (mul (aG S) v v') := Z6.muls hG sv.z6
            have e7 := c_isElement hG lW c4 zM
            have fx4 : FRx (Pw d) σ3 σ4 := o4.frx (fun y hy => by unfold Pw; omega)
            have hC4 := hC3.frx fx4 (fun x hx => Pw_72 hx)
            have e8 := r_times2 (ρ := ρ3) (f := f3) (s := s) hG hR3 (by omega) hf3 hfx3 sv sx3
            have ew3 : f_X11_isWrong (PS ρ3 f3) = some false := r_isWrong_no hL3.2.1
            rw [e6, e_bs, e7, e_bs] at hcb
            rw [ew3, e_bs, if_neg (by decide), e8, e_bs] at hrb
            have n9 : σ4.1 144 9 = i32 p' := by rw [o4.1]; exact m9
            have n10 : BH σ4 b' := m10.of (by rw [o4.1])
            rcases r_checks_live (w := w) (f := uS f3 s (mul (aG S) v v')) (s := s) hG hR3.1 hL3 (by omega) hwl hb3 (by omega) uS_self zM with ⟨hel, e9⟩ | ⟨hel, ρ4, e9, fr4, de4⟩
            · rw [hel, if_pos rfl] at hcb
              rw [e9, e_bs] at hrb
              obtain ⟨r5, σ5, ρ5, f5, b1, b2, b3, b4, b5, b6⟩ := ih q3 p' (m + 1) b' b' σ4 ρ3 _ (nrm (aG S) (mul (aG S) v v')) (by omega) (by omega) hq3p hp'l hbl3 hC4 hR3 n9 n10 hL3 hb3 (Or.inl rfl) (c4.nrm zM) (nrm_sm hel) uS_self
              refine ⟨r5, σ5, ρ5, f5, by rw [lp_go hcb]; exact b1, by rw [lp_go hrb]; exact b2, (FX3.trans fx4).trans b3, FR3.trans b4, fun t ht => by rw [b5 t ht, uS_ne (by omega), uS_ne (by omega), kf3 t (by omega), kf2 t (by omega)], ?_⟩
              rcases b6 with ⟨q', b'', c', v'', x1, x2, x3, x4, x5, x6, x7⟩ | x | x
              · exact Or.inl ⟨q', b'', c', v'', x1, x2, x3, x4, x5, by omega, x7⟩
              · exact Or.inr (Or.inl x)
              · exact Or.inr (Or.inr x)
            · rw [hel, if_neg (by decide)] at hcb
              rw [e9, e_bs] at hrb
              obtain ⟨ρ5, f5, p5, b1, b2, b3, b4, b5, b6⟩ := d_wloop ok hJ hbt jo jw hd hs hwl (w.length - q3 + 1) q3 ρ4 (uS (uS f3 s (mul (aG S) v v')) s O) (by omega) (hR3.frr fr4) de4 (by rw [uS_self]; exact SmV.O)
              refine ⟨false, wI (wI σ4 144 0 5) 144 1 (i32 b'), ρ5, f5, ?_, by rw [lp_go hrb]; exact b1, (FX3.trans fx4).trans ((FRx.fld (by omega)).trans (FRx.fld (by omega))), FR3.trans (fr4.trans b2), fun t ht => by rw [b3 t ht, uS_ne (by omega), uS_ne (by omega), kf3 t (by omega), kf2 t (by omega)], Or.inr (Or.inr ⟨b', rfl, ⟨fail_at.1, fail_at.2, p5, b4⟩, b6⟩)⟩
              rw [lp_end hcb, e_bs]
              show j_X5_readWord_91 recC σ4 = _
              unfold j_X5_readWord_91
              rw [e_gF, n10.1, c_fail, e_bq]
          · rw [if_neg (by decide)] at hcb
            have ew3 : f_X11_isWrong (PS ρ3 f3) = some true := r_isWrong_yes (t := t) (by have := hW.2.2.2.1; omega) hW.2.2.2.2.2.1
            rw [ew3, e_bs, if_pos rfl] at hrb
            exact ⟨false, σ3, ρ3, f3, by rw [lp_end hcb]; rfl, lp_end hrb, FX3, FR3, fun t ht => by rw [kf3 t (by omega), kf2 t (by omega)], Or.inr (Or.inl ⟨k, t, rfl, hW⟩)⟩
          · rw [if_neg (by decide)] at hcb
            obtain ⟨o1, o2, p3, de3⟩ := hO
            rcases de3.2.2.2.2.2 with n3 | ⟨t', t1, t2, t3⟩
            · have ew3 : f_X11_isWrong (PS ρ3 f3) = some false := r_isWrong_no n3
              have e8 := r_times2 (ρ := ρ3) (f := f3) (s := s) hG hR3 (by omega) hf3 rfl sv so
              rw [ew3, e_bs, if_neg (by decide), e8, e_bs, r_checks_dead de3 hwl (by omega), e_bs] at hrb
              obtain ⟨ρ5, f5, p5, b1, b2, b3, b4, b5, b6⟩ := d_wloop ok hJ hbt jo jw hd hs hwl (w.length - p3 + 1) p3 ρ3 (uS (uS f3 s (mul (aG S) v (f3 (s + 1)))) s O) (by omega) hR3 de3 (by rw [uS_self]; exact SmV.O)
              exact ⟨false, σ3, ρ5, f5, by rw [lp_end hcb]; rfl, by rw [lp_go hrb]; exact b1, FX3, FR3.trans b2, fun t ht => by rw [b3 t ht, uS_ne (by omega), uS_ne (by omega), kf3 t (by omega), kf2 t (by omega)], Or.inr (Or.inr ⟨t, rfl, ⟨o1, o2, p5, b4⟩, b6⟩)⟩
            · have ew3 : f_X11_isWrong (PS ρ3 f3) = some true := r_isWrong_yes (t := t') (by omega) t3
              rw [ew3, e_bs, if_pos rfl] at hrb
              exact ⟨false, σ3, ρ3, f3, by rw [lp_end hcb]; rfl, lp_end hrb, FX3, FR3, fun t ht => by rw [kf3 t (by omega), kf2 t (by omega)], Or.inr (Or.inr ⟨t, rfl, ⟨o1, o2, p3, de3⟩, by rw [hf3]; exact sv⟩)⟩
        · rw [if_neg (by decide)] at hcb
          have h20 := hW.2.2.2.2.2.1
          have ht := hW.2.2.2.1
          have ew2 : f_X11_isWrong (PS ρ2 f2) = some true := r_isWrong_yes (t := t) (by omega) h20
          have epw : f_X11_readPower (PS ρ2 f2) (i32 (s + 1)) = some (PS ρ2 f2) := by
            unfold f_X11_readPower
            rw [ew2, e_bs, if_pos rfl]
          rw [epw, e_bs, ew2, e_bs, if_pos rfl] at hrb
          exact ⟨false, σ2, ρ2, f2, by rw [lp_end hcb]; rfl, lp_end hrb, FX2, FR2, fun t ht => kf2 t (by omega), Or.inr (Or.inl ⟨k, t, rfl, hW⟩)⟩
        · rw [if_neg (by decide)] at hcb
          obtain ⟨o1, o2, p2, de2⟩ := hO
          obtain ⟨ρ3, f3, p3, e5, fr3, kf3, de3, hp3, h3⟩ := d_power' (f := f2) (s := s + 1) hG hJ hR2 hwl (by omega) de2 so
          have hR3 := hR2.frr fr3
          have FR3 := FR2.trans fr3
          have hf3 : f3 s = v := by rw [kf3 s (by omega), hf2]
          rw [e5, e_bs] at hrb
          rcases de3.2.2.2.2.2 with n3 | ⟨t', t1, t2, t3⟩
          · have ew3 : f_X11_isWrong (PS ρ3 f3) = some false := r_isWrong_no n3
            have e8 := r_times2 (ρ := ρ3) (f := f3) (s := s) hG hR3 (by omega) hf3 rfl sv (h3 n3).2
            rw [ew3, e_bs, if_neg (by decide), e8, e_bs, r_checks_dead de3 hwl (by omega), e_bs] at hrb
            obtain ⟨ρ5, f5, p5, b1, b2, b3, b4, b5, b6⟩ := d_wloop ok hJ hbt jo jw hd hs hwl (w.length - p3 + 1) p3 ρ3 (uS (uS f3 s (mul (aG S) v (f3 (s + 1)))) s O) (by omega) hR3 de3 (by rw [uS_self]; exact SmV.O)
            exact ⟨false, σ2, ρ5, f5, by rw [lp_end hcb]; rfl, by rw [lp_go hrb]; exact b1, FX2, FR3.trans b2, fun t ht => by rw [b3 t ht, uS_ne (by omega), uS_ne (by omega), kf3 t (by omega), kf2 t (by omega)], Or.inr (Or.inr ⟨t, rfl, ⟨o1, o2, p5, b4⟩, b6⟩)⟩
          · have ew3 : f_X11_isWrong (PS ρ3 f3) = some true := r_isWrong_yes (t := t') (by omega) t3
            rw [ew3, e_bs, if_pos rfl] at hrb
            exact ⟨false, σ2, ρ3, f3, by rw [lp_end hcb]; rfl, lp_end hrb, FX2, FR3, fun t ht => by rw [kf3 t (by omega), kf2 t (by omega)], Or.inr (Or.inr ⟨t, rfl, ⟨o1, o2, p3, de3⟩, by rw [hf3]; exact sv⟩)⟩
    · -- two hundred factors: the text is through
      have hqe : q1 = w.length := by omega
      have hpe : p = w.length := by omega
      have hqw : q = w.length := by omega
      have hfa : isFa (sn w q1) = false := by rw [sn_out (by omega)]; decide
      rw [hfa, if_neg (by decide)] at hrb
      have hcb : l_X5_readWord_26 recC (i32 d) (146 + d) σ (i32 m) = some (Sum.inr (Sum.inr (true, σ))) := by
        unfold l_X5_readWord_26
        rw [show (200 : Int32) = i32 200 from rfl, if_pos (i_le (by omega) (by omega))]
      exact ⟨true, σ, _, f, by rw [lp_end hcb]; rfl, lp_end hrb, FRx.refl, fr1, fun _ _ => rfl, Or.inl ⟨q1, b, bc, v, rfl, by rw [hqe, ← hpe]; exact h9, h10, hL1, by omega, by omega, hq1l, hsk.2.2.2, hA, sv, hf, hbv⟩⟩
theorem w_wrong {recR : Mem → Int32 → Option Mem} {ρ : Mem} {f : SF} {s t : Nat} (hs : s < 100) (ht : t < 2 ^ 31) (h : ρ.1 306 20 = i32 t) : o_X11_readWord recR (PS ρ f) (i32 s) = some (PS ρ (uS f s (fun _ => 0))) := by
  unfold o_X11_readWord
  have ew : f_X11_isWrong (PS ρ (uS f s (fun _ => 0))) = some true := r_isWrong_yes ht h
  have hend : l_X11_readWord_5 recR (i32 s) (PS ρ (uS f s (fun _ => 0))) = some (Sum.inr (PS ρ (uS f s (fun _ => 0)))) := by
    unfold l_X11_readWord_5
    rw [ew, e_bs, if_pos rfl]
  rw [p_ones hs, e_bs]
  exact lp_end (body := fun (z2 : Mem) => l_X11_readWord_5 recR (i32 s) z2) hend
theorem words_ok {S : AS} (ok : OKS S) (hJ : Jac (aG S)) (hbt : ∀ x : Nat, x ∈ w → x < 256) (hwl : w.length ≤ 200) : ∀ (e d nc nr : Nat), d + e = 8 → e < nc → e < nr → JWl S w (f_X5_readWord nc) (f_X11_readWord nr) d ∧ JWo S w (f_X11_readWord nr) d ∧ JWw (f_X11_readWord nr) := by
  have hG : GOK (aG S) := ok.1.1
  intro e
  induction e with
  | zero =>
    intro d nc nr hde hc hr
    obtain ⟨mc, rfl⟩ : ∃ mc, nc = mc + 1 := ⟨nc - 1, by omega⟩
    obtain ⟨mr, rfl⟩ : ∃ mr, nr = mr + 1 := ⟨nr - 1, by omega⟩
    have nd : ¬ d < 8 := by omega
    refine ⟨?_, ?_, fun ρ f s t hs ht h => w_wrong hs ht h⟩
    · intro σ ρ f s p bc br hs hC hR hp h9 h10 hL hb
      obtain ⟨rW, _, _, lW, _, _⟩ := rows_d (d := d) (by omega)
      obtain ⟨σ1, e1, o1, z1⟩ := fillL (σ := σ) (v := 0) lW (by omega)
      have fx1 : FRx (Pw d) σ σ1 := o1.frx (fun y hy => by unfold Pw; omega)
      obtain ⟨r, σ', ρ', f', b1, b2, b3, b4, b5, b6⟩ := j_wloop (recC := f_X5_readWord mc) (recR := f_X11_readWord mr) (s := s) (d := d) ok hJ hbt (fun q => absurd q nd) (fun q => absurd q nd) (fun q => absurd q nd) (by omega) hs hwl (w.length - p + 1) p p 0 br bc σ1 ρ (uS f s O) O (by omega) (Nat.zero_le _) (Nat.le_refl _) hp (fun t h1 h2 => by omega) (hC.frx fx1 (fun x hx => Pw_72 hx)) hR (by rw [o1.1]; exact h9) (h10.of (by rw [o1.1])) hL hb (Or.inr rfl) (fun k hk => z1 k hk) SmV.O uS_self
      refine ⟨r, σ', ρ', f', ?_, ?_, fx1.trans b3, b4, fun t ht => by rw [b5 t ht, uS_ne (by omega)], b6⟩
      · show o_X5_readWord (f_X5_readWord mc) σ (i32 d) = _
        unfold o_X5_readWord
        rw [if_neg (show ¬ i32 d < 0 from i_nlt (b := 0) (by omega) (by omega)), if_pos (show i32 d ≤ 8 from i_le (b := 8) (by omega) (by omega)), e_gR ln_145s.1 (by omega) (by omega), rW, e1, e_bs]
        exact b1
      · show o_X11_readWord (f_X11_readWord mr) (PS ρ f) (i32 s) = _
        unfold o_X11_readWord
        rw [p_ones (by omega), e_bs]
        exact b2
    · intro ρ f s q p hs hR hL
      obtain ⟨ρ', f', p', b1, b2, b3, b4, b5, b6⟩ := d_wloop (recR := f_X11_readWord mr) (s := s) (d := d) ok hJ hbt (fun q => absurd q nd) (fun q => absurd q nd) (by omega) hs hwl (w.length - p + 1) p ρ (uS f s O) (by omega) hR hL (by rw [uS_self]; exact SmV.O)
      refine ⟨ρ', f', p', ?_, b2, fun t ht => by rw [b3 t ht, uS_ne (by omega)], b4, b5, b6⟩
      show o_X11_readWord (f_X11_readWord mr) (PS ρ f) (i32 s) = _
      unfold o_X11_readWord
      rw [p_ones (by omega), e_bs]
      exact b1
  | succ e ih =>
    intro d nc nr hde hc hr
    obtain ⟨mc, rfl⟩ : ∃ mc, nc = mc + 1 := ⟨nc - 1, by omega⟩
    obtain ⟨mr, rfl⟩ : ∃ mr, nr = mr + 1 := ⟨nr - 1, by omega⟩
    obtain ⟨jl, jo, jw⟩ := ih (d + 1) mc mr (by omega) (by omega) (by omega)
    refine ⟨?_, ?_, fun ρ f s t hs ht h => w_wrong hs ht h⟩
    · intro σ ρ f s p bc br hs hC hR hp h9 h10 hL hb
      obtain ⟨rW, _, _, lW, _, _⟩ := rows_d (d := d) (by omega)
      obtain ⟨σ1, e1, o1, z1⟩ := fillL (σ := σ) (v := 0) lW (by omega)
      have fx1 : FRx (Pw d) σ σ1 := o1.frx (fun y hy => by unfold Pw; omega)
      obtain ⟨r, σ', ρ', f', b1, b2, b3, b4, b5, b6⟩ := j_wloop (recC := f_X5_readWord mc) (recR := f_X11_readWord mr) (s := s) (d := d) ok hJ hbt (fun _ => jl) (fun _ => jo) (fun _ => jw) (by omega) hs hwl (w.length - p + 1) p p 0 br bc σ1 ρ (uS f s O) O (by omega) (Nat.zero_le _) (Nat.le_refl _) hp (fun t h1 h2 => by omega) (hC.frx fx1 (fun x hx => Pw_72 hx)) hR (by rw [o1.1]; exact h9) (h10.of (by rw [o1.1])) hL hb (Or.inr rfl) (fun k hk => z1 k hk) SmV.O uS_self
      refine ⟨r, σ', ρ', f', ?_, ?_, fx1.trans b3, b4, fun t ht => by rw [b5 t ht, uS_ne (by omega)], b6⟩
      · show o_X5_readWord (f_X5_readWord mc) σ (i32 d) = _
        unfold o_X5_readWord
        rw [if_neg (show ¬ i32 d < 0 from i_nlt (b := 0) (by omega) (by omega)), if_pos (show i32 d ≤ 8 from i_le (b := 8) (by omega) (by omega)), e_gR ln_145s.1 (by omega) (by omega), rW, e1, e_bs]
        exact b1
      · show o_X11_readWord (f_X11_readWord mr) (PS ρ f) (i32 s) = _
        unfold o_X11_readWord
        rw [p_ones (by omega), e_bs]
        exact b2
    · intro ρ f s q p hs hR hL
      obtain ⟨ρ', f', p', b1, b2, b3, b4, b5, b6⟩ := d_wloop (recR := f_X11_readWord mr) (s := s) (d := d) ok hJ hbt (fun _ => jo) (fun _ => jw) (by omega) hs hwl (w.length - p + 1) p ρ (uS f s O) (by omega) hR hL (by rw [uS_self]; exact SmV.O)
      refine ⟨ρ', f', p', ?_, b2, fun t ht => by rw [b3 t ht, uS_ne (by omega)], b4, b5, b6⟩
      show o_X11_readWord (f_X11_readWord mr) (PS ρ f) (i32 s) = _
      unfold o_X11_readWord
      rw [p_ones (by omega), e_bs]
      exact b1
end TXT
end
section
/-! text: the call -/
section TXC
variable {σ : Mem}
/-- what reading a text changes in the class -/
def FTt (σ τ : Mem) : Prop := (∀ x, x ≠ 0 → x ≠ 144 → x ≠ 175 → τ.1 x = σ.1 x) ∧ (∀ c, c ≠ 7 → τ.1 0 c = σ.1 0 c) ∧ ∀ x, ¬ ((72 ≤ x ∧ x ≤ 79) ∨ (146 ≤ x ∧ x ≤ 177)) → τ.2 x = σ.2 x
theorem FTt.trans {τ υ : Mem} (h : FTt σ τ) (k : FTt τ υ) : FTt σ υ := ⟨fun x a b c => (k.1 x a b c).trans (h.1 x a b c), fun c hc => (k.2.1 c hc).trans (h.2.1 c hc), fun x hx => (k.2.2 x hx).trans (h.2.2 x hx)⟩
theorem FTt.hi {τ : Mem} (h : FTt σ τ) : HI σ τ := fun x hx => ⟨h.1 x (by omega) (by omega) (by omega), h.2.2 x (by omega)⟩
theorem FRx.ftt {τ : Mem} {P : Nat → Prop} (h : FRx P σ τ) (hP : ∀ x, P x → (72 ≤ x ∧ x ≤ 79) ∨ (146 ≤ x ∧ x ≤ 177)) : FTt σ τ := ⟨fun x _ b _ => h.1 x b, fun c _ => by rw [h.1 0 (by omega)], fun x hx => h.2.2 x (fun q => hx (hP x q))⟩
theorem nilget {p x : Nat} {Q : Prop} (h : ([] : List Nat)[p]? = some x) : Q := by
  rw [List.getElem?_nil] at h
  cases h
theorem ICls.text {c : Nat} {S : AS} {τ : Mem} {F : Int32 × Int32} (h : ICls c S σ) (f : FTt σ τ) (h7 : τ.1 0 7 = i32 0) (hF : τ.1 144 0 = F.1 ∧ τ.1 144 1 = F.2) : ICls c (aX S, aT S, aA S, aI S, [], F) τ := by
  obtain ⟨h1, h2, h3, h4, h5, h6, h8⟩ := h
  have g : ∀ x, x ≠ 0 → x ≠ 144 → x ≠ 175 → τ.1 x = σ.1 x := f.1
  have g2 : ∀ x, x < 72 ∨ (80 ≤ x ∧ x < 146) ∨ 178 ≤ x → τ.2 x = σ.2 x := fun x hx => f.2.2 x (by omega)
  obtain ⟨a1, nxt, a2, a3, a4⟩ := h3
  refine ⟨h1.eqs (fun x a b => g x (by omega) (by omega) (by omega)) (fun x a b => g2 x (by omega)), h2.eqs (g 16 (by omega) (by omega) (by omega)), ⟨by rw [f.2.1 4 (by omega)]; exact a1, nxt, a2, by rw [f.2.1 5 (by omega)]; exact a3, fun j X hj => (a4 j X hj).eqs (fun x b1 b2 => g x ?_ ?_ ?_) (fun x b1 b2 => g2 x ?_)⟩, ⟨by rw [f.2.1 2 (by omega)]; exact h4.1, fun y hy => ⟨(h4.2 y hy).1.eqs (fun x a b => g x (by omega) (by omega) (by omega)) (fun x a b => g2 x (by omega)), (h4.2 y hy).2.eqs (g 32 (by omega) (by omega) (by omega))⟩⟩, ⟨h7, fun p x hp => nilget hp⟩, hF, h8.eqs (fun c _ => by rw [g 40 (by omega) (by omega) (by omega)]) (fun x hx => g x (by omega) (by omega) (by omega)) (fun x hx => g2 x (by omega))⟩
  · unfold cA at b1; omega
  · unfold cA at b1; omega
  · unfold cA at b1; omega
  · unfold cA at b1; omega
theorem ICls.over {c : Nat} {S : AS} (h : ICls c S σ) : ICls c (ovS S) (wI σ 16 0 ((aT S).1 + 1)) := by
  obtain ⟨q2, q3, q4, q5, q6⟩ := h.rest
  have g : ∀ x, x ≠ 16 → (wI σ 16 0 ((aT S).1 + 1)).1 x = σ.1 x := fun x hx => by funext y; rw [wI_1, if_neg (fun z => hx z.1)]
  exact ICls.mk (h.1.eqs (fun x a b => g x (by omega)) (fun _ _ _ => rfl)) ⟨⟨by rw [wI_1, if_pos ⟨rfl, rfl⟩]; rfl, by rw [wI_1, if_neg (by omega)]; exact q2.2.1, fun i hi => by rw [wI_1, if_neg (by omega)]; exact q2.2.2 i hi⟩, q3.eqs (g 0 (by omega)) (fun x _ _ => g x (by omega)) (fun _ _ _ => rfl), ⟨by rw [g 0 (by omega)]; exact q4.1, fun y hy => ⟨(q4.2 y hy).1.eqs (fun x a b => g x (by omega)) (fun _ _ _ => rfl), (q4.2 y hy).2.eqs (g 32 (by omega))⟩⟩, ⟨by rw [g 0 (by omega)]; exact q5.1, fun p x hp => by rw [g 34 (by omega)]; exact q5.2 p x hp⟩, by rw [g 144 (by omega)]; exact q6.1, by rw [g 144 (by omega)]; exact q6.2⟩ (h.law.eqs (fun c _ => by rw [g 40 (by omega)]) (fun x hx => g x (by omega)) (fun _ _ => rfl))
/-- what reading a text changes in the reference -/
def FRt (σ τ : Mem) : Prop := (∀ x, x ≠ 306 → τ.1 x = σ.1 x) ∧ (∀ c, c = 3 ∨ c = 4 ∨ c = 9 ∨ c = 10 ∨ c = 27 ∨ c = 37 → τ.1 306 c = σ.1 306 c) ∧ ∀ x, x ≠ 313 → τ.2 x = σ.2 x
theorem IRef.text {S : AS} {τ : Mem} {F : Int32 × Int32} (h : IRef S σ) (f : FRt σ τ) (h18 : τ.1 306 18 = i32 0) (hF : τ.1 306 19 = F.1 ∧ τ.1 306 20 = F.2) : IRef (aX S, aT S, aA S, aI S, [], F) τ := by
  obtain ⟨h1, h2, h3, h4, h5, h6, h7, h8⟩ := h
  have g : ∀ x, x ≠ 306 → τ.1 x = σ.1 x := f.1
  have k := f.2.1
  exact ⟨h1.eqs (g 307 (by omega)), ⟨by rw [k 4 (by omega)]; exact h2.1, by rw [k 27 (by omega)]; exact h2.2.1, fun i hi => by rw [g 318 (by omega)]; exact h2.2.2 i hi⟩, ⟨by rw [k 3 (by omega)]; exact h3.1, fun j X hj => (h3.2 j X hj).eqs (g 308 (by omega))⟩, ⟨by rw [k 37 (by omega)]; exact h4.1, fun y hy => by
    rw [g 323 (by omega)]
    exact ⟨(h4.2 y hy).1.eqs (g 323 (by omega)), (h4.2 y hy).2⟩⟩, ⟨h18, fun p x hp => nilget hp⟩, hF, h7.eqs (k 9 (by omega)) (k 10 (by omega)) (g 311 (by omega)) (f.2.2 312 (by omega)), fun m hm => by rw [f.2.2 314 (by omega)]; exact h8 m hm⟩
theorem FRr.frt {τ : Mem} {f g : SF} (h : FRr σ τ) : FRt (PS σ f) (PS τ g) := ⟨fun x hx => h.1 x hx, fun c hc => h.2.1 c (by omega) (by omega) (by omega) (by omega) (by omega) (by omega), fun x hx => by rw [PS_2 hx, PS_2 hx, h.2.2]⟩
theorem FRt.lo {τ : Mem} (h : FRt σ τ) : LO σ τ := fun x hx => ⟨h.1 x (by omega), h.2.2 x (by omega)⟩
theorem nil_ok {S : AS} {F : Int32 × Int32} (ok : OKS S) : OKS (aX S, aT S, aA S, aI S, [], F) := ⟨ok.1, ok.2.1, ok.2.2.1, ok.2.2.2.1, Nat.zero_le _, fun x hx => absurd hx List.not_mem_nil⟩
/-! how both begin -/
def csb (σ : Mem) : Mem := wI (wI (wI σ 0 7 0) 144 0 0) 144 1 (-1)
theorem csb_f : FTt σ (csb σ) := by
  refine ⟨fun x a b _ => ?_, fun c hc => ?_, fun x _ => rfl⟩
  · funext y
    unfold csb
    rw [wI_1, if_neg (fun q => b q.1), wI_1, if_neg (fun q => b q.1), wI_1, if_neg (fun q => a q.1)]
  · unfold csb
    rw [wI_1, if_neg (by omega), wI_1, if_neg (by omega), wI_1, if_neg (by omega)]
theorem csb_7 : (csb σ).1 0 7 = i32 0 := by
  unfold csb
  rw [wI_1, if_neg (by omega), wI_1, if_neg (by omega), wI_1, if_pos ⟨rfl, rfl⟩]
  rfl
theorem csb_F : (csb σ).1 144 0 = 0 ∧ (csb σ).1 144 1 = -1 := by
  unfold csb
  exact ⟨by rw [wI_1, if_neg (by omega), wI_1, if_pos ⟨rfl, rfl⟩], by rw [wI_1, if_pos ⟨rfl, rfl⟩]⟩
def cs8 (σ : Mem) (n : Nat) : Mem := wI (wI (cpI (wI σ 144 8 (i32 n)) 34 175 0 0 n) 144 9 0) 144 10 0
theorem cs8_x {n x : Nat} (h1 : x ≠ 144) (h2 : x ≠ 175) : (cs8 σ n).1 x = σ.1 x := by
  funext y
  unfold cs8
  rw [wI_1, if_neg (fun q => h1 q.1), wI_1, if_neg (fun q => h1 q.1), cpI_get, if_neg (fun q => h2 q.1), wI_1, if_neg (fun q => h1 q.1)]
theorem cs8_144 {n c : Nat} (h1 : c ≠ 8) (h2 : c ≠ 9) (h3 : c ≠ 10) : (cs8 σ n).1 144 c = σ.1 144 c := by
  unfold cs8
  rw [wI_1, if_neg (fun q => h3 q.2), wI_1, if_neg (fun q => h2 q.2), cpI_get, if_neg (by omega), wI_1, if_neg (fun q => h1 q.2)]
theorem cs8_8 {n : Nat} : (cs8 σ n).1 144 8 = i32 n := by
  unfold cs8
  rw [wI_1, if_neg (by omega), wI_1, if_neg (by omega), cpI_get, if_neg (by omega), wI_1, if_pos ⟨rfl, rfl⟩]
theorem cs8_9 {n : Nat} : (cs8 σ n).1 144 9 = i32 0 := by
  unfold cs8
  rw [wI_1, if_neg (by omega), wI_1, if_pos ⟨rfl, rfl⟩]
  rfl
theorem cs8_10 {n : Nat} : (cs8 σ n).1 144 10 = i32 0 := by
  unfold cs8
  rw [wI_1, if_pos ⟨rfl, rfl⟩]
  rfl
theorem cs8_175 {n y : Nat} (h : y < n) : (cs8 σ n).1 175 y = σ.1 34 y := by
  unfold cs8
  rw [wI_1, if_neg (by omega), wI_1, if_neg (by omega), cpI_get, if_pos ⟨rfl, h⟩, wI_1, if_neg (by omega)]
theorem cs8_f {n : Nat} : FTt σ (cs8 σ n) := ⟨fun x _ b c => cs8_x b c, fun c _ => by rw [cs8_x (by omega) (by omega)], fun x _ => rfl⟩
theorem c_readT {n : Nat} (hn : n ≤ 200) : f_X5_read σ 34 (i32 n) = bq (f_X5_readWord 10 (cs8 σ n) 0) (fun (b9 : Bool) (σ10 : Mem) => if b9 then gF σ10 144 9 (fun (v11 : Int32) => gF σ10 144 8 (fun (v12 : Int32) => (if v12 ≤ v11 then (some (Sum.inl σ10)) else (gF σ10 144 9 (fun (v14 : Int32) => bq (f_X5_fail σ10 1 v14) (fun (b15 : Bool) (σ16 : Mem) => if b15 then some (Sum.inl σ16) else some (Sum.inr (false, σ16))))) : Option (Mem ⊕ (Bool × Mem))).bind (Sum.elim (fun (z13 : Mem) => j_X5_read_77 z13) some))) else some (false, σ10)) := by
  have e1 : f_J9_min_7cf53 σ (Int32.ofNat (ln 34)) 200 = some (i32 200) := by
    rw [ln_34]
    exact e_min (a := 200) (b := 200) (by omega) (by omega)
  have e2 : f_J9_min_7cf53 σ (i32 n) (i32 200) = some (i32 n) := by
    rw [e_min (by omega) (by omega), Nat.min_eq_left hn]
  have e3 : f_J9_max_7cf53 σ 0 (i32 n) = some (i32 n) := by
    have := e_maxN (σ := σ) (a := 0) (b := n) (by omega) (by omega)
    rw [Nat.max_eq_right (Nat.zero_le _)] at this
    exact this
  have e4 : ∀ (τ : Mem) (f : Mem → Option (Bool × Mem)), cI τ 34 0 175 0 (i32 n) f = f (cpI τ 34 175 0 0 n) := fun τ f => by
    unfold cI
    have h6 : (i32 n).toNatClampNeg = n := i32_cl (by omega)
    have h0 : (0 : Int32).toNatClampNeg = 0 := rfl
    have h7 : ¬ i32 n < 0 := i_nlt (b := 0) (Nat.zero_le _) (by omega)
    rw [h6, h0, ln_34, ln_175, if_pos ⟨⟨by decide, by decide, h7⟩, by omega, by omega⟩]
  unfold f_X5_read
  rw [e1, e_bs, e2, e_bs, e3, e_bs, e_pF, e_gF, wI_1, if_pos ⟨rfl, rfl⟩, e4, e_pF, e_pF]
  rfl
def rst (σ : Mem) (v : Int32) : Mem := wI (wI (wI (wI (wI (wI (wI (wI (wI σ 306 0 0) 306 21 0) 306 22 v) 306 18 0) 306 19 0) 306 20 (-1)) 306 24 (-1)) 306 25 0) 306 23 0
theorem rst_c {v : Int32} (c : Nat) : (rst σ v).1 306 c = if c = 23 then 0 else if c = 25 then 0 else if c = 24 then -1 else if c = 20 then -1 else if c = 19 then 0 else if c = 18 then 0 else if c = 22 then v else if c = 21 then 0 else if c = 0 then 0 else σ.1 306 c := by
  unfold rst
  simp only [wI_1, true_and]
theorem rst_x {v : Int32} {x : Nat} (h : x ≠ 306) : (rst σ v).1 x = σ.1 x := by
  funext y
  unfold rst
  simp only [wI_1, h, false_and, if_false]
theorem rst_f {v : Int32} : FRt σ (rst σ v) := ⟨fun x hx => rst_x hx, fun c hc => by rw [rst_c, if_neg (by omega), if_neg (by omega), if_neg (by omega), if_neg (by omega), if_neg (by omega), if_neg (by omega), if_neg (by omega), if_neg (by omega), if_neg (by omega)], fun x _ => rfl⟩
/-- the reference behind its word -/
noncomputable def rtl (x : Int32) (σ14 : Mem) : Option (Bool × Mem) := (f_X11_isWrong σ14).bind (fun (b15 : Bool) => (if b15 then some σ14 else bq (f_X11_behindBlanks σ14) (fun (v31 : Int32) (σ32 : Mem) => if v31 = (-1) then (some σ32) else (gF σ32 306 21 (fun (v33 : Int32) => (f_X11_errs σ32 1 v33).bind (fun (σ34 : Mem) => some σ34)))) : Option Mem).bind (fun (z16 : Mem) => j_X11_text_95 x z16))
theorem r_text {x v : Int32} (h : σ.1 306 18 = v) : f_X11_text σ x = (f_X11_isRegister (rst σ v) x).bind (fun (b11 : Bool) => if b11 then bq (f_X11_isConsistent (rst σ v)) (fun (b12 : Bool) (σ13 : Mem) => if b12 then (f_X11_readWord 20 σ13 10).bind (fun (σ14 : Mem) => rtl x σ14) else some (false, σ13)) else some (false, rst σ v)) := by
  have e : (wI (wI σ 306 0 0) 306 21 0).1 306 18 = v := by rw [wI_1, if_neg (by omega), wI_1, if_neg (by omega)]; exact h
  unfold f_X11_text
  rw [e_pF, e_pF, e_gF, e, e_pF, e_pF, e_pF, e_pF, e_pF, e_pF, e_pF]
  rfl
variable {w : List Nat}
theorem j95_no {x : Int32} (h : σ.1 306 24 = -1) : j_X11_text_95 x σ = j_X11_text_144 x σ := by
  unfold j_X11_text_95
  rw [e_gF, h, if_pos rfl, e_bs]
theorem j144_wrong {x : Int32} {t : Nat} (ht : t < 2 ^ 31) (h : σ.1 306 20 = i32 t) : j_X11_text_144 x σ = some (false, σ) := by
  unfold j_X11_text_144
  rw [r_isWrong_yes ht h, e_bs, if_pos rfl, e_bs]
  rfl
theorem rtl_wrong {ρ : Mem} {f : SF} {x : Int32} {k t d : Nat} (h : WR ρ k t d) : rtl x (PS ρ f) = some (false, PS ρ f) := by
  have ht := h.1
  have e : f_X11_isWrong (PS ρ f) = some true := r_isWrong_yes (t := t) (by omega) h.2.2.1
  unfold rtl
  rw [e, e_bs, if_pos rfl, e_bs, j95_no (σ := PS ρ f) h.2.2.2.1, j144_wrong (σ := PS ρ f) (t := t) (by omega) h.2.2.1]
theorem rtl_end {ρ : Mem} {f : SF} {x : Int32} {q b d : Nat} (hT : RTx ρ w) (hL : LV ρ d q b) (hq : q ≤ w.length) (h32 : sn w q ≠ 32) (he : sn w q = -1) : rtl x (PS ρ f) = (bq (f_X11_gives (PS ρ f) x 10) (fun (b21 : Bool) (σ22 : Mem) => if b21 then some (Sum.inr (true, σ22)) else some (Sum.inl σ22)) : Option (Mem ⊕ (Bool × Mem))).bind (Sum.elim (fun (z20 : Mem) => j_X11_text_165 z20) some) := by
  have e : f_X11_isWrong (PS ρ f) = some false := r_isWrong_no hL.2.1
  have g : (PS ρ f).1 306 21 = i32 q := hL.1
  unfold rtl
  rw [e, e_bs, if_neg (by decide), r_skip (σ := PS ρ f) hT g (Sk_same hq h32), e_bq, wI_id g, if_pos he, e_bs, j95_no (σ := PS ρ f) hL.2.2.1]
  unfold j_X11_text_144
  rw [e, e_bs, if_neg (by decide)]
theorem rtl_more {ρ : Mem} {f : SF} {x : Int32} {q b d : Nat} (hT : RTx ρ w) (hL : LV ρ d q b) (hq : q ≤ w.length) (h32 : sn w q ≠ 32) (he : sn w q ≠ -1) : ∃ ρ', rtl x (PS ρ f) = some (false, PS ρ' f) ∧ FRr ρ ρ' ∧ WR ρ' 1 q d := by
  have hw := hT.1
  have e : f_X11_isWrong (PS ρ f) = some false := r_isWrong_no hL.2.1
  have g : (PS ρ f).1 306 21 = i32 q := hL.1
  obtain ⟨ρ', e2, fr, wr, _⟩ := r_errs_live (f := f) (k := 1) (t := q) hL (by omega)
  have e2' : f_X11_errs (PS ρ f) 1 (i32 q) = some (PS ρ' f) := e2
  refine ⟨ρ', ?_, fr, wr⟩
  unfold rtl
  rw [e, e_bs, if_neg (by decide), r_skip (σ := PS ρ f) hT g (Sk_same hq h32), e_bq, wI_id g, if_neg he, e_gF, g, e2', e_bs, e_bs, j95_no (σ := PS ρ' f) wr.2.2.2.1, j144_wrong (σ := PS ρ' f) (t := q) (by omega) wr.2.2.1]
theorem j95_dead {ρ : Mem} {f : SF} {x : Int32} {q d p : Nat} (hL : DE w ρ q d p) (hw : w.length ≤ 200) : ∃ ρ', j_X11_text_95 x (PS ρ f) = some (false, PS (wI ρ' 306 4 (ρ.1 306 4 + 1)) f) ∧ FRr ρ ρ' ∧ ρ'.1 306 19 = 5 ∧ ρ'.1 306 20 = i32 q := by
  obtain ⟨a1, a2, a3, a4, a5, a6⟩ := hL
  have g24 : (PS ρ f).1 306 24 = i32 q := a4
  have e121 : j_X11_text_121 (PS ρ f) = some (PS (wI (wI (wI ρ 306 19 5) 306 20 (i32 q)) 306 4 (ρ.1 306 4 + 1)) f) := by
    unfold j_X11_text_121
    have k24 : (PS (wI ρ 306 19 5) f).1 306 24 = i32 q := by rw [PS_1, wI_1, if_neg (by omega)]; exact a4
    have k4 : (PS (wI (wI ρ 306 19 5) 306 20 (i32 q)) f).1 306 4 = ρ.1 306 4 := by rw [PS_1, wI_1, if_neg (by omega), wI_1, if_neg (by omega)]
    rw [e_pF, PS_wI, e_gF, k24, e_pF, PS_wI, e_gF, k4, e_pF, PS_wI]
  refine ⟨wI (wI ρ 306 19 5) 306 20 (i32 q), ?_, (FRr.fld (by omega)).trans (FRr.fld (by omega)), by rw [wI_1, if_neg (by omega), wI_1, if_pos ⟨rfl, rfl⟩], by rw [wI_1, if_pos ⟨rfl, rfl⟩]⟩
  have e144 : j_X11_text_144 x (PS (wI (wI (wI ρ 306 19 5) 306 20 (i32 q)) 306 4 (ρ.1 306 4 + 1)) f) = some (false, PS (wI (wI (wI ρ 306 19 5) 306 20 (i32 q)) 306 4 (ρ.1 306 4 + 1)) f) := j144_wrong (t := q) (by omega) (by rw [PS_1, wI_1, if_neg (by omega), wI_1, if_pos ⟨rfl, rfl⟩])
  unfold j_X11_text_95
  rw [e_gF, g24, if_neg (ne_m1 (by omega))]
  rcases a6 with a6 | ⟨t, t1, t2, t3⟩
  · have e : f_X11_isWrong (PS ρ f) = some false := r_isWrong_no a6
    rw [e, e_bs, if_neg (by decide), e_bs]
    show (j_X11_text_121 (PS ρ f)).bind _ = _
    rw [e121, e_bs, e144]
  · have e : f_X11_isWrong (PS ρ f) = some true := r_isWrong_yes (t := t) (by omega) t3
    have g20 : (PS ρ f).1 306 20 = i32 t := t3
    rw [e, e_bs, if_pos rfl, e_gF, g20, e_gF, g24, if_neg (i_nlt t1 (by omega)), e_bs]
    show (j_X11_text_121 (PS ρ f)).bind _ = _
    rw [e121, e_bs, e144]
theorem rtl_dead {ρ : Mem} {f : SF} {x : Int32} {q d p : Nat} (hT : RTx ρ w) (hL : DE w ρ q d p) : ∃ ρ', rtl x (PS ρ f) = some (false, PS (wI ρ' 306 4 (ρ.1 306 4 + 1)) f) ∧ FRr ρ ρ' ∧ ρ'.1 306 19 = 5 ∧ ρ'.1 306 20 = i32 q := by
  have hw := hT.1
  have hL' := hL
  obtain ⟨a1, a2, a3, a4, a5, a6⟩ := hL
  rcases a6 with a6 | ⟨t, t1, t2, t3⟩
  · have e : f_X11_isWrong (PS ρ f) = some false := r_isWrong_no a6
    have g : (PS ρ f).1 306 21 = i32 p := a3
    obtain ⟨q1, hs⟩ := Sk_ex w (w.length - p) p a2 (Nat.le_refl _)
    have de1 := hL'.at hs.1 hs.2.1
    have b1 := hs.1
    have b2 := hs.2.1
    by_cases he : sn w q1 = -1
    · obtain ⟨ρ', e1, fr, r1, r2⟩ := j95_dead (f := f) (x := x) de1 hw
      refine ⟨ρ', ?_, (FRr.fld (by omega)).trans fr, r1, r2⟩
      unfold rtl
      rw [e, e_bs, if_neg (by decide), r_skip (σ := PS ρ f) hT g hs, e_bq, PS_wI, if_pos he, e_bs, e1, wI_1, if_neg (by omega)]
    · obtain ⟨ρ2, e2, fr2, de2, _⟩ := r_errs_dead (f := f) (k := 1) (t := q1) de1 (by omega) (by omega)
      have e2' : f_X11_errs (PS (wI ρ 306 21 (i32 q1)) f) 1 (i32 q1) = some (PS ρ2 f) := e2
      obtain ⟨ρ', e1, fr, r1, r2⟩ := j95_dead (f := f) (x := x) de2 hw
      have k4 : ρ2.1 306 4 = ρ.1 306 4 := by rw [fr2.2.1 4 (by omega) (by omega) (by omega) (by omega) (by omega) (by omega), wI_1, if_neg (by omega)]
      have g2 : (PS (wI ρ 306 21 (i32 q1)) f).1 306 21 = i32 q1 := by rw [PS_1, wI_1, if_pos ⟨rfl, rfl⟩]
      refine ⟨ρ', ?_, (FRr.fld (by omega)).trans (fr2.trans fr), r1, r2⟩
      unfold rtl
      rw [e, e_bs, if_neg (by decide), r_skip (σ := PS ρ f) hT g hs, e_bq, PS_wI, if_neg he, e_gF, g2, e2', e_bs, e_bs, e1, k4]
  · have e : f_X11_isWrong (PS ρ f) = some true := r_isWrong_yes (t := t) (by omega) t3
    obtain ⟨ρ', e1, fr, r1, r2⟩ := j95_dead (f := f) (x := x) hL' hw
    refine ⟨ρ', ?_, fr, r1, r2⟩
    unfold rtl
    rw [e, e_bs, if_pos rfl, e_bs, e1]
end TXC
end
section
/-! text: the call, both sides -/
section TX2
variable {σ : Mem}
theorem sn_end {w : List Nat} (hbt : ∀ x : Nat, x ∈ w → x < 256) {q : Nat} (hq : q ≤ w.length) : sn w q = -1 ↔ q = w.length := by
  constructor
  · intro h
    rcases sn_cases hbt q with ⟨x, hx, h256, hlt, hs⟩ | ⟨hle, _⟩
    · rw [h] at hs
      exact absurd hs.symm (ne_m1 (by omega))
    · omega
  · intro h
    exact sn_out (by omega)
theorem rst_23 {v : Int32} : (rst σ v).1 306 23 = i32 0 := by
  rw [rst_c, if_pos rfl]; rfl
theorem rst_25 {v : Int32} : (rst σ v).1 306 25 = i32 0 := by
  rw [rst_c, if_neg (by omega), if_pos rfl]; rfl
theorem rst_24 {v : Int32} : (rst σ v).1 306 24 = -1 := by
  rw [rst_c, if_neg (by omega), if_neg (by omega), if_pos rfl]
theorem rst_20 {v : Int32} : (rst σ v).1 306 20 = -1 := by
  rw [rst_c, if_neg (by omega), if_neg (by omega), if_neg (by omega), if_pos rfl]
theorem rst_19 {v : Int32} : (rst σ v).1 306 19 = 0 := by
  rw [rst_c, if_neg (by omega), if_neg (by omega), if_neg (by omega), if_neg (by omega), if_pos rfl]
theorem rst_18 {v : Int32} : (rst σ v).1 306 18 = i32 0 := by
  rw [rst_c, if_neg (by omega), if_neg (by omega), if_neg (by omega), if_neg (by omega), if_neg (by omega), if_pos rfl]; rfl
theorem rst_22 {v : Int32} : (rst σ v).1 306 22 = v := by
  rw [rst_c, if_neg (by omega), if_neg (by omega), if_neg (by omega), if_neg (by omega), if_neg (by omega), if_neg (by omega), if_pos rfl]
theorem rst_21 {v : Int32} : (rst σ v).1 306 21 = i32 0 := by
  rw [rst_c, if_neg (by omega), if_neg (by omega), if_neg (by omega), if_neg (by omega), if_neg (by omega), if_neg (by omega), if_neg (by omega), if_pos rfl]; rfl
/-- no text: both empty their tapes and forget -/
abbrev S0 (S : AS) (F : Int32 × Int32) : AS := (aX S, aT S, aA S, aI S, [], F)
theorem ok_13 : Ok_13 II := by
  intro c σ x hc ⟨S, ok, h, hr⟩
  have hG : GOK (aG S) := ok.1.1
  have hn : gn (aG S) ≤ 6 := hG.2.1
  have hwl : (aP S).length ≤ 200 := ok.2.2.2.2.1
  have hbt : ∀ x : Nat, x ∈ aP S → x < 256 := ok.2.2.2.2.2
  have h5 : CTape σ (aP S) := h.2.2.2.2.1
  obtain ⟨b, hb, hB⟩ := c_cons h
  have hb' : (csb σ).1 40 3 = b2i b := by rw [csb_f.1 40 (by omega) (by omega) (by omega)]; exact hb
  have ec : f_X10_text σ x = (f_X10_isRegister (csb σ) x).bind (fun (b4 : Bool) => if b4 then gZ (csb σ) 40 3 (fun (b5 : Bool) => if b5 then bq (f_X5_read (csb σ) 34 (i32 (aP S).length)) (fun (b6 : Bool) (σ7 : Mem) => if b6 then gR 145 0 (fun (p11 : Nat) => (f_X0_copy σ7 p11 176).bind (fun (σ12 : Mem) => bq (f_X10_keep σ12 x) (fun (b13 : Bool) (σ14 : Mem) => some (b13, σ14)))) else gF σ7 144 0 (fun (v8 : Int32) => if v8 = 5 then (gI σ7 16 0 (fun (v9 : Int32) => pI σ7 16 0 (v9 + 1) (fun (σ10 : Mem) => some (false, σ10)))) else (some (false, σ7)))) else some (false, csb σ)) else some (false, csb σ)) := by
    unfold f_X10_text f_X5_forget
    rw [e_gF, h5.1, e_pF, e_pF, e_pF, e_bs]
    rfl
  have h0 : ICls c (S0 S (0, -1)) (csb σ) := h.text csb_f csb_7 csb_F
  have ok0 : ∀ F, OKS (S0 S F) := fun F => nil_ok ok
  have rb : ∀ σ2, HI σ σ2 → IRef (S0 S (0, -1)) (rst σ2 (i32 (aP S).length)) ∧ LO σ2 (rst σ2 (i32 (aP S).length)) ∧ σ2.1 306 18 = i32 (aP S).length := fun σ2 hi => ⟨(hr.hi hi).text rst_f rst_18 ⟨rst_19, rst_20⟩, rst_f.lo, (hr.hi hi).2.2.2.2.1.1⟩
  by_cases hgo : isReg x = true ∧ b = true
  · obtain ⟨hx, hbt'⟩ := hgo
    have hcons := hB.mp hbt'
    have hJ := Cons.jac hG hcons
    obtain ⟨r, hr10, rfl⟩ := isReg_idx hx
    obtain ⟨jl, _, _⟩ := words_ok (S := S) (w := aP S) ok hJ hbt hwl 8 0 10 20 rfl (by omega) (by omega)
    have hC : BC (aG S) (aR S) (aP S) (cs8 (csb σ) (aP S).length) := by
      have hcp : CPoly (aG S) (csb σ) := c_ct (S := S0 S (0, -1)) h0 hcons
      refine ⟨fun k hk => (hcp k hk).of (cs8_x (by omega) (by omega)) (cs8_x (by omega) (by omega)) rfl (cs8_x (by omega) (by omega)), ⟨hwl, cs8_8, fun q y hq => ?_⟩, fun q hq k hk => c_reg h0 hq k hk, ?_⟩
      · have hlt := (List.getElem?_eq_some_iff.mp hq).1
        rw [cs8_175 hlt, csb_f.1 34 (by omega) (by omega) (by omega)]
        exact h5.2 q y hq
      · rw [cs8_x (by omega) (by omega)]
        exact h0.1.1.1
    have hBH : BH (cs8 (csb σ) (aP S).length) 0 := ⟨cs8_10, by rw [cs8_144 (by omega) (by omega) (by omega)]; exact csb_F.1, by rw [cs8_144 (by omega) (by omega) (by omega)]; exact csb_F.2⟩
    have K : ∀ σ2, HI σ σ2 → ∃ ρ f r' σ' ρ' f', f_X11_text σ2 (i32 r) = (f_X11_readWord 20 (PS ρ f) 10).bind (fun (σ14 : Mem) => rtl (i32 r) σ14) ∧ IRef (S0 S (0, -1)) (PS ρ f) ∧ LO σ2 (PS ρ f) ∧ f_X5_readWord 10 (cs8 (csb σ) (aP S).length) 0 = some (r', σ') ∧ f_X11_readWord 20 (PS ρ f) 10 = some (PS ρ' f') ∧ FRx (Pw 0) (cs8 (csb σ) (aP S).length) σ' ∧ FRr ρ ρ' ∧ WOut S (aP S) 0 10 0 r' σ' ρ' f' ∧ BR (aG S) (aR S) (aP S) ρ := by
      intro σ2 hi
      obtain ⟨I0, l0, h18⟩ := rb σ2 hi
      obtain ⟨b2, τ, e, f, hl, h9, hl2, hc2⟩ := r_isConsistent I0.1.mg hG I0.2.2.2.2.2.2.2 I0.2.2.2.2.2.2.1
      have hb2 : b2 = true := hc2.mpr hcons
      subst hb2
      have I1 := I0.fly f hl
      obtain ⟨g, hg⟩ := PS_any τ
      have k := f.2.1
      have hBR : BR (aG S) (aR S) (aP S) τ := ⟨I1.1.mg, I1.2.2.2.2.2.2.2, ⟨hwl, by rw [k 22 (by omega) (by omega) (by omega) (by omega)]; exact rst_22, fun q y hq => by rw [f.1 317 (by omega) (by omega) (by omega) (by omega) (by omega) (by omega), rst_x (by omega)]; exact (hr.hi hi).2.2.2.2.1.2 q y hq⟩, I1.1⟩
      have hL : LV τ 0 0 0 := ⟨by rw [k 21 (by omega) (by omega) (by omega) (by omega)]; exact rst_21, by rw [k 20 (by omega) (by omega) (by omega) (by omega)]; exact rst_20, by rw [k 24 (by omega) (by omega) (by omega) (by omega)]; exact rst_24, by rw [k 25 (by omega) (by omega) (by omega) (by omega)]; exact rst_25, by rw [k 23 (by omega) (by omega) (by omega) (by omega)]; exact rst_23, by rw [k 19 (by omega) (by omega) (by omega) (by omega)]; exact rst_19⟩
      obtain ⟨r', σ', ρ', f', e1, e2, fx, fr, _, out⟩ := jl (cs8 (csb σ) (aP S).length) τ g 10 0 0 0 (by omega) hC hBR (Nat.zero_le _) cs8_9 hBH hL (Nat.le_refl _)
      refine ⟨τ, g, r', σ', ρ', f', ?_, by rw [hg]; exact I1, by rw [hg]; exact l0.trans f.lo, e1, e2, fx, fr, out, hBR⟩
      rw [r_text h18, r_isReg, e_bs, hx, if_pos rfl, e, e_bq, if_pos rfl, hg]
    obtain ⟨_, _, r1, σ1, _, _, _, _, _, e1, _, fx1, _, out1, _⟩ := K σ HI.refl
    have F1 : FTt σ σ1 := csb_f.trans (cs8_f.trans (fx1.ftt (fun x hx => by unfold Pw at hx; omega)))
    have z7 : σ1.1 0 7 = i32 0 := by rw [fx1.1 0 (by omega), cs8_x (by omega) (by omega)]; exact csb_7
    have z8 : σ1.1 144 8 = i32 (aP S).length := by rw [fx1.2.1 8 (by omega) (by omega) (by omega) (by omega)]; exact cs8_8
    have KK : ∀ σ2, HI σ σ2 → ∃ ρ' f', f_X11_text σ2 (i32 r) = rtl (i32 r) (PS ρ' f') ∧ (∀ (τ : Mem) (F : Int32 × Int32), FRr ρ' τ → τ.1 306 19 = F.1 → τ.1 306 20 = F.2 → ∀ g, IRef (S0 S F) (PS τ g)) ∧ (∀ (τ : Mem) (g : SF), FRr ρ' τ → LO σ2 (PS τ g)) ∧ WOut S (aP S) 0 10 0 r1 σ1 ρ' f' ∧ RTx ρ' (aP S) := by
      intro σ2 hi
      obtain ⟨ρ, f, r', σ', ρ', f', a1, a2, a3, a4, a5, a6, a7, a8, a9⟩ := K σ2 hi
      have h2 := Option.some.inj (a4.symm.trans e1)
      have q1 : r' = r1 := congrArg Prod.fst h2
      have q2 : σ' = σ1 := congrArg Prod.snd h2
      rw [q1, q2] at a8
      refine ⟨ρ', f', by rw [a1, a5, e_bs], fun τ F fr h1 h2 g => ?_, fun τ g fr => a3.trans (FRt.lo ((a7.trans fr).frt)), a8, (a9.frr a7).2.2.1⟩
      have h18 : (PS ρ f).1 306 18 = i32 0 := a2.2.2.2.2.1.1
      exact IRef.text (S := S0 S (0, -1)) a2 ((a7.trans fr).frt) (((a7.trans fr).2.1 18 (by omega) (by omega) (by omega) (by omega) (by omega) (by omega)).trans h18) ⟨h1, h2⟩
    have eg : ∀ (f : Nat → Option (Bool × Mem)), gR 145 0 f = f (146 + 0) := fun f => by
      rw [i32_0, e_gR ln_145 (by omega) (by omega), (rows_d (d := 0) (by omega)).1]
    rw [ec, c_isReg, e_bs, hx, if_pos rfl, e_gZ hb', hbt', if_pos rfl]
    rcases out1 with ⟨q, b1, b1', v, hrt, k9, k10, hL1, hb1, hpq, hq, h32, hA, sv, _, _⟩ | ⟨k, t, hrf, hW⟩ | ⟨t, hrf, hO, _⟩
    · by_cases hend : q = (aP S).length
      · have eR : f_X5_read (csb σ) 34 (i32 (aP S).length) = some (true, σ1) := by
          rw [c_readT hwl, e1, e_bq, hrt, if_pos rfl, e_gF, k9, e_gF, z8, if_pos (i_le (by omega) (by omega))]
          rfl
        obtain ⟨σ2, e5, o2, c2⟩ := c_copy (σ := σ1) (a := 146 + 0) (b := 176) (A := v) (rows_d (d := 0) (by omega)).2.2.2.1 ln_176 hA
        have F2 : FTt σ σ2 := F1.trans ((o2.frx (Q := fun x => x = 176) (fun y hy => hy)).ftt (fun x hx => by omega))
        have h2 : ICls c (S0 S (0, -1)) σ2 := h.text F2 (by rw [o2.1]; exact z7) ⟨by rw [o2.1]; exact k10.2.1, by rw [o2.1]; exact k10.2.2⟩
        have hel : isEl (aG S) v = true := isEl_small sv.1
        obtain ⟨σ3, e6, i3, hi3⟩ := c_keep h2 (ok0 _) c2 sv.z6 hr10 hel
        obtain ⟨ρ', f', a1, a2, a3, a4, a5⟩ := KK σ3 (F2.hi.trans hi3)
        rcases a4 with ⟨q2, b2, b2', v2, _, m9, _, mL, _, _, mq, m32, mA, msv, mf, _⟩ | ⟨k, t, hrf, _⟩ | ⟨t, hrf, _, _⟩
        · have hqq : q2 = q := by
            have := m9.symm.trans k9
            rw [i32_eq (by omega) (by omega)] at this
            exact this
          have hLI := a2 ρ' (0, -1) FRr.refl mL.2.2.2.2.2 mL.2.1 f'
          obtain ⟨τ, e7, r7, l7⟩ := r_gives (f := f') hLI (ok0 _) hr10 (s := 10) (by omega)
          have e7' : f_X11_gives (PS ρ' f') (i32 r) 10 = some (isEl (aG S) (f' 10), τ) := e7
          have hel2 : isEl (aG S) (f' 10) = true := by rw [mf]; exact isEl_small msv.1
          have hvv : EqG (aG S) v (f' 10) := fun i hi => by
            have e := (hA i (by omega)).symm.trans (mA i (by omega))
            have b1 := sv.1 i
            have b2 := msv.1 i
            have e2 := congrArg Int64.toInt e
            rw [oi_toInt (by omega) (by omega), oi_toInt (by omega) (by omega)] at e2
            rw [mf]
            exact e2
          refine ⟨true, σ3, τ, ?_, ?_, fin_kept (S := S0 S (0, -1)) (ok0 _) hvv (by rw [if_pos (show isEl (aG (S0 S (0, -1))) v = true from hel)]; exact i3) r7 ((a3 ρ' f' FRr.refl).trans l7)⟩
          · rw [eR, e_bq, if_pos rfl, eg, e5, e_bs, e6, e_bq]
          · rw [a1, rtl_end a5 mL mq m32 ((sn_end hbt mq).mpr (by omega)), e7', e_bq, hel2, if_pos rfl, e_bs]
            rfl
        · rw [hrt] at hrf; cases hrf
        · rw [hrt] at hrf; cases hrf
      · have eR : f_X5_read (csb σ) 34 (i32 (aP S).length) = some (false, wI (wI σ1 144 0 1) 144 1 (i32 q)) := by
          rw [c_readT hwl, e1, e_bq, hrt, if_pos rfl, e_gF, k9, e_gF, z8, if_neg (i_nle (by omega) (by omega)), e_gF, k9, c_fail, e_bq, if_neg (by decide), e_bs]
          rfl
        have F7 : FTt σ (wI (wI σ1 144 0 1) 144 1 (i32 q)) := F1.trans (FRx.ftt (P := fun _ => False) ((FRx.fld (by omega)).trans (FRx.fld (by omega))) (fun x hx => hx.elim))
        obtain ⟨ρ', f', a1, a2, a3, a4, a5⟩ := KK _ F7.hi
        rcases a4 with ⟨q2, b2, b2', v2, _, m9, _, mL, _, _, mq, m32, mA, msv, mf, _⟩ | ⟨k, t, hrf, _⟩ | ⟨t, hrf, _, _⟩
        · have hqq : q2 = q := by
            have := m9.symm.trans k9
            rw [i32_eq (by omega) (by omega)] at this
            exact this
          subst hqq
          obtain ⟨ρ2, e8, fr8, wr8⟩ := rtl_more (f := f') (x := i32 r) a5 mL mq m32 (fun z => hend ((sn_end hbt mq).mp z))
          refine ⟨false, _, PS ρ2 f', ?_, by rw [a1]; exact e8, S0 S (1, i32 q2), ok0 _, ((h.text F7 (by rw [wI_1, if_neg (by omega), wI_1, if_neg (by omega)]; exact z7) ⟨fail_at.1, fail_at.2⟩).up).lo (a3 ρ2 f' fr8), a2 ρ2 (1, i32 q2) fr8 wr8.2.1 wr8.2.2.1 f'⟩
          rw [eR, e_bq, if_neg (by decide), e_gF, fail_at.1, if_neg (by decide)]
        · rw [hrt] at hrf; cases hrf
        · rw [hrt] at hrf; cases hrf
    · have eR : f_X5_read (csb σ) 34 (i32 (aP S).length) = some (false, σ1) := by
        rw [c_readT hwl, e1, e_bq, hrf, if_neg (by decide)]
      have hk4 := hW.1
      have hk5 : ¬ i32 k = 5 := i_ne (b := 5) (by omega) (by omega) (by omega)
      obtain ⟨ρ', f', a1, a2, a3, a4, a5⟩ := KK σ1 F1.hi
      rcases a4 with ⟨q2, b2, b2', v2, hrt, _⟩ | ⟨k2, t2, _, hW2⟩ | ⟨t2, _, hO2, _⟩
      · rw [hrf] at hrt; cases hrt
      · refine ⟨false, σ1, PS ρ' f', ?_, by rw [a1]; exact rtl_wrong hW2.2.2.2, S0 S (i32 k, i32 t), ok0 _, ((h.text F1 z7 ⟨hW.2.1, hW.2.2.1⟩).up).lo (a3 ρ' f' FRr.refl), a2 ρ' (i32 k, i32 t) FRr.refl (hW2.2.2.2.2.1.trans (hW2.2.1.symm.trans hW.2.1)) (hW2.2.2.2.2.2.1.trans (hW2.2.2.1.symm.trans hW.2.2.1)) f'⟩
        rw [eR, e_bq, if_neg (by decide), e_gF, hW.2.1, if_neg hk5]
      · exact absurd (hW.2.1.symm.trans hO2.1) hk5
    · have eR : f_X5_read (csb σ) 34 (i32 (aP S).length) = some (false, σ1) := by
        rw [c_readT hwl, e1, e_bq, hrf, if_neg (by decide)]
      have h5' : ICls c (S0 S (5, i32 t)) σ1 := h.text F1 z7 ⟨hO.1, hO.2.1⟩
      have h16 : σ1.1 16 0 = (aT S).1 := h5'.2.1.1
      have eT : (gI σ1 16 0 (fun (v9 : Int32) => pI σ1 16 0 (v9 + 1) (fun (σ10 : Mem) => some (false, σ10))) : Option (Bool × Mem)) = some (false, wI σ1 16 0 ((aT S).1 + 1)) := by
        rw [i32_0, e_gI ln_16 (by omega) (by omega), e_pI ln_16 (by omega) (by omega), h16]
      have hi7 : HI σ (wI σ1 16 0 ((aT S).1 + 1)) := F1.hi.trans (fun x hx => ⟨by funext y; rw [wI_1, if_neg (by omega)], rfl⟩)
      obtain ⟨ρ', f', a1, a2, a3, a4, a5⟩ := KK _ hi7
      rcases a4 with ⟨q2, b2, b2', v2, hrt, _⟩ | ⟨k2, t2, _, hW2⟩ | ⟨t2, _, hO2, _⟩
      · rw [hrf] at hrt; cases hrt
      · have hk4 := hW2.1
        exact absurd (hW2.2.1.symm.trans hO.1) (i_ne (b := 5) (by omega) (by omega) (by omega))
      · obtain ⟨_, o2, p, de⟩ := hO2
        obtain ⟨ρ2, e8, fr8, g19, g20⟩ := rtl_dead (f := f') (x := i32 r) a5 de
        have I2 := a2 ρ2 (5, i32 t) fr8 g19 (g20.trans (o2.symm.trans hO.2.1)) f'
        have g4 : ρ'.1 306 4 = (aT S).1 := by
          rw [← fr8.2.1 4 (by omega) (by omega) (by omega) (by omega) (by omega) (by omega)]
          exact I2.2.1.1
        rw [g4] at e8
        refine ⟨false, _, _, ?_, by rw [a1]; exact e8, ovS (S0 S (5, i32 t)), ovS_ok (ok0 _), (h5'.over.up).lo ((a3 ρ2 f' fr8).trans (LO.row (by omega))), I2.over⟩
        rw [eR, e_bq, if_neg (by decide), e_gF, hO.1, if_pos rfl]
        exact eT
  · -- refused
    have hrs : ∃ τ, f_X11_text (csb σ) x = some (false, τ) ∧ IRef (S0 S (0, -1)) τ ∧ LO (csb σ) τ := by
      obtain ⟨I0, l0, h18⟩ := rb (csb σ) csb_f.hi
      rw [r_text h18, r_isReg, e_bs]
      cases hx : isReg x with
      | false =>
        rw [if_neg (by decide)]
        exact ⟨_, rfl, I0, l0⟩
      | true =>
        obtain ⟨b2, τ, e, I1, l1, _, _, hc2⟩ := r_cons I0 (ok0 _)
        have hb2 : b2 = false := by
          cases b2 with
          | false => rfl
          | true => exact absurd ⟨hx, hB.mpr (hc2.mp rfl)⟩ hgo
        subst hb2
        rw [if_pos rfl, e, e_bq, if_neg (by decide)]
        exact ⟨_, rfl, I1, l0.trans l1⟩
    obtain ⟨τ, e, I, l⟩ := hrs
    refine ⟨false, csb σ, τ, ?_, e, S0 S (0, -1), ok0 _, (h0.lo l).up, I⟩
    rw [ec, c_isReg, e_bs]
    cases hx : isReg x with
    | false => rw [if_neg (by decide)]
    | true =>
      have hbf : b = false := by
        cases b with
        | false => rfl
        | true => exact absurd ⟨hx, rfl⟩ hgo
      rw [if_pos rfl, e_gZ hb', hbf, if_neg (by decide)]
end TX2
end
section
/-! register: what it is, by simple questions -/
section RG1
variable {σ : Mem} {G : GD}
theorem c_bitB {b : Bool} : f_X10_bit σ b = some (if b = true then 1 else 0) := by
  unfold f_X10_bit
  split <;> rfl
theorem EE_z6 {i : Nat} (hi : i < gn G) : Z6 G (EE i) := fun k h1 _ => by
  unfold EE
  rw [if_neg (by omega)]
/-- an element that commutes with all -/
def CA (G : GD) (A : Nat → Int) : Prop := ∀ i, i < gn G → areS G (mul G A (EE i)) (mul G (EE i) A) = true
theorem c_commutesAll {c : Nat} {S : AS} (h : ICls c S σ) (ok : OKS S) (hcons : Cons (aG S)) {p : Nat} (hp : p < 10) : ∃ b τ, f_X10_commutesWithAll σ (6 + p) = some (b, τ) ∧ ICls c S τ ∧ HI σ τ ∧ (b = true ↔ CA (aG S) (aR S p)) := by
  have hG : GOK (aG S) := ok.1.1
  have hn : gn (aG S) ≤ 6 := hG.2.1
  unfold f_X10_commutesWithAll
  have hl := loop_inv (body := fun (z2 : (Mem × Int32)) => l_X10_commutesWithAll_2 (6 + p) z2.1 z2.2) (fun n z => ∃ i τ, i ≤ gn (aG S) ∧ n = gn (aG S) - i ∧ z = (τ, i32 i) ∧ ICls c S τ ∧ HI σ τ ∧ ∀ q, q < i → areS (aG S) (mul (aG S) (aR S p) (EE q)) (mul (aG S) (EE q) (aR S p)) = true) (fun r => ∃ b τ, r = (b, τ) ∧ ICls c S τ ∧ HI σ τ ∧ (b = true ↔ CA (aG S) (aR S p))) ?_ (gn (aG S)) (σ, 0) ⟨0, σ, by omega, rfl, rfl, h, HI.refl, fun q hq => absurd hq (Nat.not_lt_zero _)⟩
  · obtain ⟨r, e, b, τ, rfl, h1, h2, h3⟩ := hl
    exact ⟨b, τ, e, h1, h2, h3⟩
  · rintro n z ⟨i, τ, hi, rfl, rfl, hI, hhi, hd⟩
    have h20 : τ.1 2 0 = i32 (gn (aG S)) := hI.1.1.1
    by_cases hin : i = gn (aG S)
    · right
      subst hin
      refine ⟨_, ?_, true, τ, rfl, hI, hhi, fun _ => hd, fun _ => rfl⟩
      show l_X10_commutesWithAll_2 (6 + p) τ (i32 (gn (aG S))) = _
      unfold l_X10_commutesWithAll_2
      rw [e_gF, h20, if_pos (i_le (Nat.le_refl _) (by omega))]
    · obtain ⟨σ1, e1, o1, r1⟩ := c_makeGen (σ := τ) (a := 177) (i := i) (y := 1) ln_177 (by omega)
      have e1' : f_X0_makeGenerator τ 177 (i32 i) 1 = some σ1 := e1
      have s1 := o1.sc (fun x hx => by omega)
      have hI1 := hI.sc s1
      have r1' : H6 σ1 177 (EE i) := r1
      obtain ⟨σ2, e2, o2⟩ := c_doCommute hG (c_poly hI1 ok hcons) (a := 6 + p) (b := 177) (ln_reg hp) ln_177 (c_reg hI1 hp) r1' (by omega) (by omega) (M := 999) (by omega) (by omega) (reg_sb ok p) (EE_sb (by omega) i) (reg_z6 ok p) (EE_z6 (by omega))
      have s2 := o2.sc (fun x hx => by omega)
      have hbody : l_X10_commutesWithAll_2 (6 + p) τ (i32 i) = if areS (aG S) (mul (aG S) (aR S p) (EE i)) (mul (aG S) (EE i) (aR S p)) = true then some (Sum.inl (σ2, i32 i + 1)) else some (Sum.inr (false, σ2)) := by
        unfold l_X10_commutesWithAll_2
        rw [e_gF, h20, if_neg (i_nle (by omega) (by omega)), e1', e_bs, e2, e_bq]
      have hhi2 : HI σ σ2 := hhi.trans (s1.hi.trans s2.hi)
      by_cases hb : areS (aG S) (mul (aG S) (aR S p) (EE i)) (mul (aG S) (EE i) (aR S p)) = true
      · left
        refine ⟨(σ2, i32 (i + 1)), gn (aG S) - (i + 1), by omega, ?_, i + 1, σ2, by omega, rfl, rfl, hI1.sc s2, hhi2, fun q hq => ?_⟩
        · show l_X10_commutesWithAll_2 (6 + p) τ (i32 i) = _
          rw [hbody, if_pos hb, i32_1, i32_add]
        · by_cases hqi : q = i
          · rw [hqi]; exact hb
          · exact hd q (by omega)
      · right
        refine ⟨_, ?_, false, σ2, rfl, hI1.sc s2, hhi2, fun z => absurd z (by decide), fun z => absurd (z i (by omega)) hb⟩
        show l_X10_commutesWithAll_2 (6 + p) τ (i32 i) = _
        rw [hbody, if_neg hb]
/-! roots -/
def RtP (G : GD) (A : Nat → Int) (m : Nat) : Prop := (∀ k, k < gn G → rtOK G A m k) ∧ isEl G (rtU G A m (gn G)) = true
def GtR (G : GD) (A : Nat → Int) (r : Int32) : Prop := (∃ m, 2 ≤ m ∧ m ≤ 99 ∧ RtP G A m ∧ (∀ q, m < q → q ≤ 99 → ¬ RtP G A q) ∧ r = i32 m) ∨ ((∀ q, 2 ≤ q → q ≤ 99 → ¬ RtP G A q) ∧ r = 1)
theorem GtR.uniq {A : Nat → Int} {r q : Int32} (h : GtR G A r) (k : GtR G A q) : r = q := by
  rcases h with ⟨m, a1, a2, a3, a4, rfl⟩ | ⟨a1, rfl⟩
  · rcases k with ⟨n, b1, b2, b3, b4, rfl⟩ | ⟨b1, rfl⟩
    · rcases Nat.lt_trichotomy m n with c | c | c
      · exact absurd b3 (a4 n c b2)
      · rw [c]
      · exact absurd a3 (b4 m c a2)
    · exact absurd a3 (b1 m a1 a2)
  · rcases k with ⟨n, b1, b2, b3, b4, rfl⟩ | ⟨b1, rfl⟩
    · exact absurd b3 (a1 n b1 b2)
    · rfl
theorem i32_down {m : Nat} (h : 1 ≤ m) : i32 m + (-1) = i32 (m - 1) := by
  rw [← Int32.sub_eq_add_neg, i32_1, i32_sub h]
theorem c_roots {c : Nat} {S : AS} (h : ICls c S σ) (ok : OKS S) (hcons : Cons (aG S)) {p : Nat} (hp : p < 10) : ∃ r τ, f_X10_greatestRoot σ (6 + p) = some (r, τ) ∧ ICls c S τ ∧ HI σ τ ∧ GtR (aG S) (aR S p) r := by
  have hG : GOK (aG S) := ok.1.1
  unfold f_X10_greatestRoot
  have hl := loop_inv (body := fun (z3 : (Mem × Int32)) => l_X10_greatestRoot_3 (6 + p) z3.1 z3.2) (fun n z => ∃ τ, 1 ≤ n ∧ n ≤ 99 ∧ z = (τ, i32 n) ∧ ICls c S τ ∧ HI σ τ ∧ ∀ q, n < q → q ≤ 99 → ¬ RtP (aG S) (aR S p) q) (fun x => ∃ r τ, x = (r, τ) ∧ ICls c S τ ∧ HI σ τ ∧ GtR (aG S) (aR S p) r) ?_ 99 (σ, 99) ⟨σ, by omega, by omega, rfl, h, HI.refl, fun q h1 h2 => by omega⟩
  · obtain ⟨x, e, r, τ, rfl, h1, h2, h3⟩ := hl
    exact ⟨r, τ, e, h1, h2, h3⟩
  · rintro n z ⟨τ, h1, h99, rfl, hI, hhi, hno⟩
    by_cases hn1 : n = 1
    · right
      subst hn1
      refine ⟨_, ?_, 1, τ, rfl, hI, hhi, Or.inr ⟨fun q h1 h2 => hno q (by omega) h2, rfl⟩⟩
      show l_X10_greatestRoot_3 (6 + p) τ (i32 1) = _
      unfold l_X10_greatestRoot_3
      rw [if_pos (by decide)]
    · obtain ⟨b1, σ1, e1, o1, hb1, _⟩ := c_extract hG (out := 176) (x1 := 6 + p) (m := (i32 n).toInt64) (z := (n : Int)) (c_poly hI ok hcons) ln_176 (ln_reg hp) (c_reg hI hp) (reg_z6 ok p) (by omega) (n64 (by omega)) (by omega)
      rw [rt_all hG (reg_z6 ok p)] at hb1
      have s1 := o1.sc (fun x hx => by omega)
      have hbody : l_X10_greatestRoot_3 (6 + p) τ (i32 n) = if b1 = true then some (Sum.inr (i32 n, σ1)) else some (Sum.inl (σ1, i32 n + (-1))) := by
        unfold l_X10_greatestRoot_3
        rw [if_neg (show ¬ i32 n ≤ 1 from i_nle (b := 1) (by omega) (by omega)), e1, e_bq]
      cases hbt : b1 with
      | true =>
        right
        refine ⟨_, ?_, i32 n, σ1, rfl, hI.sc s1, hhi.trans s1.hi, Or.inl ⟨n, by omega, h99, hb1.mp hbt, hno, rfl⟩⟩
        show l_X10_greatestRoot_3 (6 + p) τ (i32 n) = _
        rw [hbody, if_pos hbt]
      | false =>
        left
        refine ⟨(σ1, i32 (n - 1)), n - 1, by omega, ?_, σ1, by omega, by omega, rfl, hI.sc s1, hhi.trans s1.hi, fun q q1 q2 => ?_⟩
        · show l_X10_greatestRoot_3 (6 + p) τ (i32 n) = _
          rw [hbody, hbt, if_neg (by decide), i32_down h1]
        · by_cases hqn : q = n
          · intro hr
            rw [hqn] at hr
            have := hb1.mpr hr
            rw [hbt] at this
            cases this
          · exact hno q (by omega) q2
theorem r_roots {f : SF} {A : Nat → Int} (hG : GOK G) (hM : MG σ G) (h0 : M0 σ) (hf : f 0 = A) (sA : SB G 999 A) : ∃ r g, f_X11_greatestRoot (PS σ f) 0 = some (r, PS σ g) ∧ GtR G A r := by
  unfold f_X11_greatestRoot
  have hl := loop_inv (body := fun (z3 : (Mem × Int32)) => l_X11_greatestRoot_3 0 z3.1 z3.2) (fun n z => ∃ g, 1 ≤ n ∧ n ≤ 99 ∧ z = (PS σ g, i32 n) ∧ g 0 = A ∧ ∀ q, n < q → q ≤ 99 → ¬ RtP G A q) (fun x => ∃ r g, x = (r, PS σ g) ∧ GtR G A r) ?_ 99 (PS σ f, 99) ⟨f, by omega, by omega, rfl, hf, fun q h1 h2 => by omega⟩
  · obtain ⟨x, e, r, g, rfl, h3⟩ := hl
    exact ⟨r, g, e, h3⟩
  · rintro n z ⟨g, h1, h99, rfl, hg, hno⟩
    by_cases hn1 : n = 1
    · right
      subst hn1
      refine ⟨_, ?_, 1, g, rfl, Or.inr ⟨fun q h1 h2 => hno q (by omega) h2, rfl⟩⟩
      show l_X11_greatestRoot_3 0 (PS σ g) (i32 1) = _
      unfold l_X11_greatestRoot_3
      rw [if_pos (by decide)]
    · have hz : (i32 n).toInt = (n : Int) := i32_toInt (by omega)
      obtain ⟨b2, g2, e2, hb2, hg2, k2⟩ := p_extracts (σ := σ) (f := g) hM hG h0 (s := 0) (t := 1) (m := i32 n) (z := (n : Int)) (by omega) (by omega) (by omega) hz (by omega) (by rw [hg]; exact sA)
      rw [hg] at hb2 hg2
      have e2' : f_X11_extracts (PS σ g) 0 1 (i32 n) = some (b2, PS σ g2) := e2
      have e3 : f_X11_isElement (PS σ g2) 1 = some (isEl G (g2 1)) := p_isElement hM hG (s := 1) (by omega)
      have hgA : g2 0 = A := by rw [k2 0 (by omega)]; exact hg
      have hyes : b2 = true → isEl G (g2 1) = true → l_X11_greatestRoot_3 0 (PS σ g) (i32 n) = some (Sum.inr (i32 n, PS σ g2)) := fun q1 q2 => by
        unfold l_X11_greatestRoot_3
        rw [if_neg (show ¬ i32 n ≤ 1 from i_nle (b := 1) (by omega) (by omega)), e2', e_bq, q1, if_pos rfl, e3, e_bs, q2, if_pos rfl, e_bs]
        rfl
      have hnoo : ¬ (b2 = true ∧ isEl G (g2 1) = true) → l_X11_greatestRoot_3 0 (PS σ g) (i32 n) = some (Sum.inl (PS σ g2, i32 (n - 1))) := fun q => by
        unfold l_X11_greatestRoot_3
        rw [if_neg (show ¬ i32 n ≤ 1 from i_nle (b := 1) (by omega) (by omega)), e2', e_bq]
        cases hb : b2 with
        | false =>
          rw [if_neg (by decide), e_bs]
          show j_X11_greatestRoot_28 (i32 n) (PS σ g2) = _
          unfold j_X11_greatestRoot_28
          rw [i32_down h1]
        | true =>
          rw [if_pos rfl, e3, e_bs, nb (fun z => q ⟨hb, z⟩), if_neg (by decide), e_bs]
          show j_X11_greatestRoot_28 (i32 n) (PS σ g2) = _
          unfold j_X11_greatestRoot_28
          rw [i32_down h1]
      by_cases hy : b2 = true ∧ isEl G (g2 1) = true
      · right
        refine ⟨_, hyes hy.1 hy.2, i32 n, g2, rfl, Or.inl ⟨n, by omega, h99, ⟨hb2.mp hy.1, ?_⟩, hno, rfl⟩⟩
        rw [← hg2 hy.1]; exact hy.2
      · left
        refine ⟨(PS σ g2, i32 (n - 1)), n - 1, by omega, hnoo hy, g2, by omega, by omega, rfl, hgA, fun q q1 q2 => ?_⟩
        by_cases hqn : q = n
        · intro hr
          rw [hqn] at hr
          have q3 := hb2.mpr hr.1
          exact hy ⟨q3, by rw [hg2 q3]; exact hr.2⟩
        · exact hno q (by omega) q2
/-! registers that are the same -/
theorem c_sameAs {c : Nat} {S : AS} (h : ICls c S σ) (ok : OKS S) {p : Nat} (hp : p < 10) : f_X10_sameAs σ (6 + p) = some (bits (fun r => areS (aG S) (aR S p) (aR S r)) 10) := by
  have hG : GOK (aG S) := ok.1.1
  unfold f_X10_sameAs
  refine loop_up (body := fun (z2 : (Int32 × Int32)) => l_X10_sameAs_4 σ (6 + p) z2.1 z2.2) (fun k => (bits (fun r => areS (aG S) (aR S p) (aR S r)) k, i32 k)) 0 10 _ (by omega) (fun k _ hk => ?_) ?_
  · show l_X10_sameAs_4 σ (6 + p) _ (i32 k) = _
    unfold l_X10_sameAs_4
    rw [i32_10, if_neg (i_nle hk (by omega)), e_gR ln_5 hk (by omega), rf_5 hk, c_same hG (ln_reg hp) (ln_reg hk) (c_reg h hp) (c_reg h hk) (reg_z6 ok p) (reg_z6 ok k), e_bs, bits]
    cases hb : areS (aG S) (aR S p) (aR S k) with
    | true =>
      rw [if_pos rfl, e_bd, e_bs, if_pos rfl]
      unfold j_X10_sameAs_32
      rw [show i32 k + 1 = i32 (k + 1) from by rw [i32_1, i32_add]]
    | false =>
      rw [if_neg (by decide), e_bs, if_neg (by decide)]
      unfold j_X10_sameAs_32
      rw [show i32 k + 1 = i32 (k + 1) from by rw [i32_1, i32_add]]
  · show l_X10_sameAs_4 σ (6 + p) _ (i32 10) = _
    unfold l_X10_sameAs_4
    rw [i32_10, if_pos (i_le (Nat.le_refl _) (by omega))]
theorem r_sameAs {S : AS} {f : SF} {p : Nat} (ok : OKS S) (hB : RB σ 307 0 (aX S)) (hf : f 0 = aR S p) {x : Int32} : ∃ g, f_X11_sameAs (PS σ f) x = some (bits (fun r => areS (aG S) (aR S p) (aR S r)) 10, PS σ g) := by
  have hG : GOK (aG S) := ok.1.1
  unfold f_X11_sameAs
  have hl := loop_inv (body := fun (z3 : (Mem × Int32 × Int32)) => l_X11_sameAs_4 z3.1 z3.2.1 z3.2.2) (fun n z => ∃ k g, k ≤ 10 ∧ n = 10 - k ∧ g 0 = aR S p ∧ z = (PS σ g, bits (fun r => areS (aG S) (aR S p) (aR S r)) k, i32 k)) (fun r => ∃ g, r = (bits (fun r => areS (aG S) (aR S p) (aR S r)) 10, PS σ g)) ?_ 10 (PS σ f, 0, 0) ⟨0, f, by omega, rfl, hf, rfl⟩
  · obtain ⟨r, e, g, rfl⟩ := hl
    exact ⟨g, e⟩
  · rintro n z ⟨k, g, hk, rfl, hg, rfl⟩
    by_cases hk10 : k = 10
    · right
      subst hk10
      refine ⟨_, ?_, g, rfl⟩
      show l_X11_sameAs_4 (PS σ g) _ (i32 10) = _
      unfold l_X11_sameAs_4
      rw [i32_10, if_pos (i_le (Nat.le_refl _) (by omega))]
    · left
      refine ⟨(PS σ (uS g 1 (aR S k)), bits (fun r => areS (aG S) (aR S p) (aR S r)) (k + 1), i32 (k + 1)), 10 - (k + 1), by omega, ?_, k + 1, _, by omega, rfl, by rw [uS_ne (by omega)]; exact hg, rfl⟩
      show l_X11_sameAs_4 (PS σ g) _ (i32 k) = _
      unfold l_X11_sameAs_4
      have a1 : f_X11_laysRegister (PS σ g) 1 (i32 k) = some (PS σ (uS g 1 (aR S k))) := p_lays (σ := σ) (f := g) hB ok (s := 1) (by omega) (by omega)
      have a2 : f_X11_areSame (PS σ (uS g 1 (aR S k))) 0 1 = some (areS (aG S) ((uS g 1 (aR S k)) 0) ((uS g 1 (aR S k)) 1)) := p_areSame hB.mg hG (s := 0) (r := 1) (by omega) (by omega)
      rw [uS_self, uS_ne (by omega), hg] at a2
      rw [i32_10, if_neg (i_nle (by omega) (by omega)), a1, e_bs, a2, e_bs, bits]
      cases hb : areS (aG S) (aR S p) (aR S k) with
      | true =>
        rw [if_pos rfl, e_bd, e_bs, if_pos rfl]
        unfold j_X11_sameAs_31
        rw [show i32 k + 1 = i32 (k + 1) from by rw [i32_1, i32_add]]
      | false =>
        rw [if_neg (by decide), e_bs, if_neg (by decide)]
        unfold j_X11_sameAs_31
        rw [show i32 k + 1 = i32 (k + 1) from by rw [i32_1, i32_add]]
end RG1
end
section
/-! register: by how short a word -/
section RG2
variable {σ : Mem} {G : GD}
theorem fnd_pre (hG : GOK G) {l : Nat} (hl : l ≤ 4) {x : Nat → Int} : fnd G (lvl G l).2 x < (lvl G l).2.length ↔ fnd G (lvl G 4).2 x < (lvl G l).2.length := by
  obtain ⟨T, hT⟩ := lvl_pre (G := G) (4 - l) l
  rw [show l + (4 - l) = 4 by omega] at hT
  have F4 := (lvl_facts hG 4).2.2.2.1
  have Fl := (lvl_facts hG l).2.2.2.1
  have hlen : (lvl G 4).2.length = (lvl G l).2.length + T.length := by rw [hT, List.length_append]
  constructor
  · intro h
    obtain ⟨y, hy, hyx⟩ := fnd_hit h
    have h4 : (lvl G 4).2[fnd G (lvl G l).2 x]? = some y := by rw [hT, List.getElem?_append_left h]; exact hy
    rw [fnd_eq F4 h4 hyx]
    exact h
  · intro h
    obtain ⟨y, hy, hyx⟩ := fnd_hit (G := G) (M := (lvl G 4).2) (x := x) (by omega)
    have hl2 : (lvl G l).2[fnd G (lvl G 4).2 x]? = some y := by
      rw [hT, List.getElem?_append_left (by rw [← hT]; exact h), ← hT] at hy
      exact hy
    rw [fnd_eq Fl hl2 hyx]
    exact h
/-- the length of the shortest word, from a length on -/
def shF (G : GD) (A : Nat → Int) : Nat → Nat → Int32
  | 0, _ => -1
  | n + 1, l => if (lvl G l).2.length ≤ 1000 then (if fnd G (lvl G l).2 A < (lvl G l).2.length then i32 l else shF G A n (l + 1)) else -1
theorem c_level {c : Nat} {S : AS} (hc : c < 520) (h : ICls c S σ) (ok : OKS S) (hcons : Cons (aG S)) {p : Nat} (hp : p < 10) : ∃ τ, f_X1_levelOf σ (6 + p) = some (shF (aG S) (aR S p) 5 0, τ) ∧ ICls c S τ ∧ HI σ τ := by
  have hG : GOK (aG S) := ok.1.1
  have hn : gn (aG S) ≤ 6 := hG.2.1
  obtain ⟨τ, e, hb, f, he⟩ := c_find hG hc h.law hcons
  have hI := h.fbf f hb he
  have L4 := lvl_facts hG 4
  refine ⟨τ, ?_, hI, f.hi⟩
  obtain ⟨q0, hq0, e2, hcase⟩ := c_slotOf (σ := τ) (a := 6 + p) (x := aR S p) (M := (lvl (aG S) 4).2) hn (ln_reg hp) (c_reg hI hp) ⟨hb.1, hb.2.2.1, hb.2.2.2⟩ L4.2.1 L4.2.2.2.1 (fun y hy => (L4.2.2.2.2 y hy).zb) (fun k hk => ok.1.2.2 p k hk)
  have hloop : ∀ v : Nat, v ≤ (lvl (aG S) 4).2.length → fnd (aG S) (lvl (aG S) 4).2 (aR S p) = v → v < (lvl (aG S) 4).2.length → loopO (fun (z5 : Int32) => l_X1_levelOf_19 τ (i32 v) z5) 0 = some (shF (aG S) (aR S p) 5 0, τ) := by
    intro v hv hf hlt
    have key : ∀ n l, l + n = 5 → loopO (fun (z5 : Int32) => l_X1_levelOf_19 τ (i32 v) z5) (i32 l) = some (shF (aG S) (aR S p) n l, τ) := by
      intro n
      induction n with
      | zero =>
        intro l hl
        have : l = 5 := by omega
        subst this
        refine lp_end ?_
        unfold l_X1_levelOf_19
        rw [if_pos (by decide)]
        rfl
      | succ n ih =>
        intro l hl
        have hl4 : l ≤ 4 := by omega
        have hln := (lvl_facts hG l).2.1
        have hbody : l_X1_levelOf_19 τ (i32 v) (i32 l) = if (lvl (aG S) l).2.length ≤ 1000 then (if fnd (aG S) (lvl (aG S) l).2 (aR S p) < (lvl (aG S) l).2.length then some (Sum.inr (i32 l, τ)) else some (Sum.inl (i32 (l + 1)))) else some (Sum.inr (-1, τ)) := by
          unfold l_X1_levelOf_19
          rw [if_neg (show ¬ 4 < i32 l from i_nlt (a := 4) (by omega) (by omega)), if_neg (show ¬ i32 v < 0 from i_nlt (b := 0) (by omega) (by omega)), e_gI ln_129 (by omega) (by omega), e_gI ln_129 (by omega) (by omega), hb.2.1 l hl4]
          by_cases h1 : (lvl (aG S) l).2.length ≤ 1000
          · rw [if_pos h1, if_pos h1, if_neg (ne_m1 (by omega))]
            by_cases h2 : v < (lvl (aG S) l).2.length
            · rw [if_neg (i_nle h2 (by omega)), if_pos ((fnd_pre hG hl4).mpr (by rw [hf]; exact h2))]
            · rw [if_pos (i_le (by omega) (by omega)), if_neg (fun z => h2 (by have := (fnd_pre hG hl4).mp z; rw [hf] at this; exact this)), i32_1, i32_add]
          · rw [if_neg h1, if_neg h1, if_pos rfl]
        by_cases h1 : (lvl (aG S) l).2.length ≤ 1000
        · by_cases h2 : fnd (aG S) (lvl (aG S) l).2 (aR S p) < (lvl (aG S) l).2.length
          · rw [if_pos h1, if_pos h2] at hbody
            rw [lp_end hbody]
            show _ = some ((if (lvl (aG S) l).2.length ≤ 1000 then (if fnd (aG S) (lvl (aG S) l).2 (aR S p) < (lvl (aG S) l).2.length then i32 l else shF (aG S) (aR S p) n (l + 1)) else -1), τ)
            rw [if_pos h1, if_pos h2]
          · rw [if_pos h1, if_neg h2] at hbody
            rw [lp_go hbody, ih (l + 1) (by omega)]
            show _ = some ((if (lvl (aG S) l).2.length ≤ 1000 then (if fnd (aG S) (lvl (aG S) l).2 (aR S p) < (lvl (aG S) l).2.length then i32 l else shF (aG S) (aR S p) n (l + 1)) else -1), τ)
            rw [if_pos h1, if_neg h2]
        · rw [if_neg h1] at hbody
          rw [lp_end hbody]
          show _ = some ((if (lvl (aG S) l).2.length ≤ 1000 then (if fnd (aG S) (lvl (aG S) l).2 (aR S p) < (lvl (aG S) l).2.length then i32 l else shF (aG S) (aR S p) n (l + 1)) else -1), τ)
          rw [if_neg h1]
    exact key 5 0 rfl
  unfold f_X1_levelOf
  rw [e, e_bs, e2, e_bs, e_gI ln_131 hq0 (by omega)]
  have hl4 := L4.2.1
  rcases hcase with ⟨v, hv, hlt, hs⟩ | ⟨hv, hs, _⟩
  · rw [hs, e_bd, i32_1, i32_sub (by omega), Nat.add_sub_cancel]
    exact hloop v (by omega) hv hlt
  · rw [hs, e_bd]
    have hno : ∀ n l, l + n = 5 → shF (aG S) (aR S p) n l = -1 := by
      intro n
      induction n with
      | zero => intro l _; rfl
      | succ n ih =>
        intro l hl
        show (if (lvl (aG S) l).2.length ≤ 1000 then (if fnd (aG S) (lvl (aG S) l).2 (aR S p) < (lvl (aG S) l).2.length then i32 l else shF (aG S) (aR S p) n (l + 1)) else -1) = -1
        have hnf : ¬ fnd (aG S) (lvl (aG S) l).2 (aR S p) < (lvl (aG S) l).2.length := fun z => by
          have h1 := (fnd_pre hG (by omega)).mp z
          obtain ⟨T, hT⟩ := lvl_pre (G := aG S) (4 - l) l
          rw [show l + (4 - l) = 4 by omega] at hT
          have hlen : (lvl (aG S) 4).2.length = (lvl (aG S) l).2.length + T.length := by rw [hT, List.length_append]
          omega
        rw [if_neg hnf, ih (l + 1) (by omega)]
        split <;> rfl
    rw [hno 5 0 rfl]
    refine lp_end (body := fun (z5 : Int32) => l_X1_levelOf_19 τ (0 - 1) z5) ?_
    unfold l_X1_levelOf_19
    rw [if_neg (by decide), if_pos (by decide)]
theorem r_short {f : SF} {A : Nat → Int} (hG : GOK G) (hM : MG σ G) (h0 : M0 σ) (hf : f 0 = A) : ∃ τ g, f_X11_shortOf (PS σ f) 0 = some (shF G A 5 0, PS τ g) ∧ FRm σ τ := by
  have key : ∀ n l (ρ : Mem) (g : SF), l + n = 5 → FRm σ ρ → MG ρ G → M0 ρ → g 0 = A → ∃ τ g', loopO (fun (z2 : (Mem × Int32)) => l_X11_shortOf_2 0 z2.1 z2.2) (PS ρ g, i32 l) = some (shF G A n l, PS τ g') ∧ FRm σ τ := by
    intro n
    induction n with
    | zero =>
      intro l ρ g hl fr hM h0 hg
      have : l = 5 := by omega
      subst this
      refine ⟨ρ, g, lp_end (body := fun (z2 : (Mem × Int32)) => l_X11_shortOf_2 0 z2.1 z2.2) ?_, fr⟩
      show l_X11_shortOf_2 0 (PS ρ g) (i32 5) = _
      unfold l_X11_shortOf_2
      rw [if_pos (by decide)]
      rfl
    | succ n ih =>
      intro l ρ g hl fr hM h0 hg
      obtain ⟨ρ2, g2, e2, c2, fr2, k2⟩ := r_laysBall (σ := ρ) (f := g) (l := l) hG hM h0 (by omega)
      have hM2 : MG ρ2 G := by unfold MG; rw [fr2.1 307 (by omega)]; exact hM
      have h02 : M0 ρ2 := h0.frm fr2
      have hg2 : g2 0 = A := by rw [k2 0 (by omega)]; exact hg
      have hlf := lvl_facts hG l
      have e3 : f_X11_place (PS ρ2 g2) 0 = some (i32 (fnd G (lvl G l).2 (g2 0))) := r_place (σ := ρ2) (f := g2) (s := 0) hG hM2 (by omega) c2 hlf.2.1 hlf.2.2.2.1
      rw [hg2] at e3
      have g29 : (PS ρ2 g2).1 306 29 = i32 (lvl G l).2.length := c2.1
      have hfl : fnd G (lvl G l).2 A ≤ (lvl G l).2.length := fnd_le
      have hl1 := hlf.2.1
      have hbody : l_X11_shortOf_2 0 (PS ρ g) (i32 l) = if (lvl G l).2.length ≤ 1000 then (if fnd G (lvl G l).2 A < (lvl G l).2.length then some (Sum.inr (i32 l, PS ρ2 g2)) else some (Sum.inl (PS ρ2 g2, i32 (l + 1)))) else some (Sum.inr (-1, PS ρ2 g2)) := by
        unfold l_X11_shortOf_2
        rw [if_neg (show ¬ 4 < i32 l from i_nlt (a := 4) (by omega) (by omega)), e2, e_bq]
        by_cases h1 : (lvl G l).2.length ≤ 1000
        · rw [if_pos (show i32 (lvl G l).2.length ≤ 1000 from i_le (b := 1000) h1 (by omega)), if_pos h1, e3, e_bs, e_gF, g29]
          by_cases h2 : fnd G (lvl G l).2 A < (lvl G l).2.length
          · rw [if_neg (i_nle h2 (by omega)), if_pos h2]
          · rw [if_pos (i_le (by omega) (by omega)), if_neg h2, i32_1, i32_add]
        · rw [if_neg (show ¬ i32 (lvl G l).2.length ≤ 1000 from i_nle (b := 1000) (by omega) (by omega)), if_neg h1]
      have hsh : shF G A (n + 1) l = (if (lvl G l).2.length ≤ 1000 then (if fnd G (lvl G l).2 A < (lvl G l).2.length then i32 l else shF G A n (l + 1)) else -1) := rfl
      by_cases h1 : (lvl G l).2.length ≤ 1000
      · by_cases h2 : fnd G (lvl G l).2 A < (lvl G l).2.length
        · rw [if_pos h1, if_pos h2] at hbody
          refine ⟨ρ2, g2, ?_, fr.trans fr2⟩
          have hv : shF G A (n + 1) l = i32 l := by rw [hsh, if_pos h1, if_pos h2]
          rw [hv]
          exact lp_end (body := fun (z2 : (Mem × Int32)) => l_X11_shortOf_2 0 z2.1 z2.2) (s := (PS ρ g, i32 l)) hbody
        · rw [if_pos h1, if_neg h2] at hbody
          obtain ⟨τ, g', b1, b2⟩ := ih (l + 1) ρ2 g2 (by omega) (fr.trans fr2) hM2 h02 hg2
          refine ⟨τ, g', ?_, b2⟩
          have hv : shF G A (n + 1) l = shF G A n (l + 1) := by rw [hsh, if_pos h1, if_neg h2]
          rw [hv]
          exact (lp_go (body := fun (z2 : (Mem × Int32)) => l_X11_shortOf_2 0 z2.1 z2.2) (s := (PS ρ g, i32 l)) hbody).trans b1
      · rw [if_neg h1] at hbody
        refine ⟨ρ2, g2, ?_, fr.trans fr2⟩
        have hv : shF G A (n + 1) l = -1 := by rw [hsh, if_neg h1]
        rw [hv]
        exact lp_end (body := fun (z2 : (Mem × Int32)) => l_X11_shortOf_2 0 z2.1 z2.2) (s := (PS ρ g, i32 l)) hbody
  unfold f_X11_shortOf
  exact key 5 0 σ f rfl FRm.refl hM h0 hf
end RG2
end
section
/-! whole-number combinations of columns -/
section SPN
/-- a sum of columns -/
def cb (z : Nat → Int) (C : Nat → Nat → Int) (j : Nat) : Nat → Int
  | 0 => 0
  | m + 1 => cb z C j m + z m * C m j
theorem cb_add {z y : Nat → Int} {C : Nat → Nat → Int} {j : Nat} : ∀ m, cb (fun c => z c + y c) C j m = cb z C j m + cb y C j m
  | 0 => rfl
  | m + 1 => by
    show cb (fun c => z c + y c) C j m + (z m + y m) * C m j = (cb z C j m + z m * C m j) + (cb y C j m + y m * C m j)
    rw [cb_add m]
    grind
theorem cb_mul {a : Int} {z : Nat → Int} {C : Nat → Nat → Int} {j : Nat} : ∀ m, cb (fun c => a * z c) C j m = a * cb z C j m
  | 0 => (Int.mul_zero _).symm
  | m + 1 => by
    show cb (fun c => a * z c) C j m + (a * z m) * C m j = a * (cb z C j m + z m * C m j)
    rw [cb_mul m]
    grind
theorem cb_one {k : Nat} {C : Nat → Nat → Int} {j : Nat} : ∀ m, cb (fun c => if c = k then 1 else 0) C j m = if k < m then C k j else 0
  | 0 => by rw [if_neg (Nat.not_lt_zero _)]; rfl
  | m + 1 => by
    show cb (fun c => if c = k then 1 else 0) C j m + (if m = k then 1 else 0) * C m j = _
    rw [cb_one m]
    by_cases h1 : m = k
    · rw [if_pos h1, if_neg (by omega), if_pos (by omega), h1]; omega
    · rw [if_neg h1]
      by_cases h2 : k < m
      · rw [if_pos h2, if_pos (by omega)]; omega
      · rw [if_neg h2, if_neg (by omega)]; omega
theorem cb_congr {z y : Nat → Int} {C D : Nat → Nat → Int} {j : Nat} : ∀ m, (∀ c, c < m → z c * C c j = y c * D c j) → cb z C j m = cb y D j m
  | 0, _ => rfl
  | m + 1, h => by
    show cb z C j m + z m * C m j = cb y D j m + y m * D m j
    rw [cb_congr m (fun c hc => h c (by omega)), h m (by omega)]
theorem cb_zero {z : Nat → Int} {C : Nat → Nat → Int} {j : Nat} : ∀ m, (∀ c, c < m → z c * C c j = 0) → cb z C j m = 0
  | 0, _ => rfl
  | m + 1, h => by
    show cb z C j m + z m * C m j = 0
    rw [cb_zero m (fun c hc => h c (by omega)), h m (by omega)]
    rfl
variable {T : Nat → Prop} {C D : Nat → Nat → Int} {m : Nat}
/-- what columns make, at the numbers that are looked at -/
def Spn (T : Nat → Prop) (C : Nat → Nat → Int) (m : Nat) (v : Nat → Int) : Prop := ∃ z, ∀ j, T j → v j = cb z C j m
theorem Spn.zero : Spn T C m (fun _ => 0) := ⟨fun _ => 0, fun j _ => (cb_zero m (fun c _ => Int.zero_mul _)).symm⟩
theorem Spn.add {v u : Nat → Int} (h : Spn T C m v) (k : Spn T C m u) : Spn T C m (fun j => v j + u j) := by
  obtain ⟨z, hz⟩ := h
  obtain ⟨y, hy⟩ := k
  exact ⟨fun c => z c + y c, fun j hj => by show v j + u j = _; rw [cb_add, hz j hj, hy j hj]⟩
theorem Spn.mul {v : Nat → Int} (a : Int) (h : Spn T C m v) : Spn T C m (fun j => a * v j) := by
  obtain ⟨z, hz⟩ := h
  exact ⟨fun c => a * z c, fun j hj => by show a * v j = _; rw [cb_mul, hz j hj]⟩
theorem Spn.congr {v u : Nat → Int} (h : Spn T C m v) (e : ∀ j, T j → u j = v j) : Spn T C m u := by
  obtain ⟨z, hz⟩ := h
  exact ⟨z, fun j hj => by rw [e j hj, hz j hj]⟩
theorem Spn.col {c : Nat} (h : c < m) : Spn T C m (C c) := ⟨fun e => if e = c then 1 else 0, fun j _ => by rw [cb_one, if_pos h]⟩
theorem Spn.sub {v u : Nat → Int} (h : Spn T C m v) (k : Spn T C m u) : Spn T C m (fun j => v j - u j) := (h.add (k.mul (-1))).congr (fun j _ => by omega)
theorem Spn.comb {z : Nat → Int} : ∀ n, (∀ c, c < n → Spn T C m (D c)) → Spn T C m (fun j => cb z D j n)
  | 0, _ => Spn.zero
  | n + 1, h => (Spn.comb n (fun c hc => h c (by omega))).add ((h n (by omega)).mul (z n))
theorem Spn.le {n : Nat} {v : Nat → Int} (h : ∀ c, c < n → Spn T C m (D c)) (k : Spn T D n v) : Spn T C m v := by
  obtain ⟨z, hz⟩ := k
  exact (Spn.comb (z := z) n h).congr hz
/-- two families make the same -/
def SpE (T : Nat → Prop) (C D : Nat → Nat → Int) (m : Nat) : Prop := ∀ v, Spn T C m v ↔ Spn T D m v
theorem SpE.refl : SpE T C C m := fun _ => Iff.rfl
theorem SpE.trans {E : Nat → Nat → Int} (h : SpE T C D m) (k : SpE T D E m) : SpE T C E m := fun v => (h v).trans (k v)
theorem SpE.symm (h : SpE T C D m) : SpE T D C m := fun v => (h v).symm
theorem SpE.of (h : ∀ c, c < m → Spn T D m (C c)) (k : ∀ c, c < m → Spn T C m (D c)) : SpE T C D m := fun _ => ⟨Spn.le h, Spn.le k⟩
theorem SpE.congr (h : ∀ c j, c < m → T j → C c j = D c j) : SpE T C D m := SpE.of (fun c hc => (Spn.col hc).congr (fun j hj => h c j hc hj)) (fun c hc => (Spn.col hc).congr (fun j hj => (h c j hc hj).symm))
end SPN
end
section
/-! columns divided by one of them: how large they get -/
section EUC
/-- a number between two others' bounds -/
def Wi (B x : Int) : Prop := -B ≤ x ∧ x ≤ B
theorem Wi.mul {A B x y : Int} (h : Wi A x) (k : Wi B y) : Wi (A * B) (x * y) := by
  have hA : 0 ≤ A := by have := h.1; have := h.2; omega
  have hB : 0 ≤ B := by have := k.1; have := k.2; omega
  have h1 : x.natAbs ≤ A.natAbs := by have := h.1; have := h.2; omega
  have h2 : y.natAbs ≤ B.natAbs := by have := k.1; have := k.2; omega
  have h3 : (x * y).natAbs ≤ (A * B).natAbs := by
    rw [Int.natAbs_mul, Int.natAbs_mul]
    exact Nat.mul_le_mul h1 h2
  have h4 : 0 ≤ A * B := Int.mul_nonneg hA hB
  exact ⟨by omega, by omega⟩
theorem Wi.add {A B x y : Int} (h : Wi A x) (k : Wi B y) : Wi (A + B) (x + y) := ⟨by have := h.1; have := k.1; omega, by have := h.2; have := k.2; omega⟩
theorem Wi.sub {A B x y : Int} (h : Wi A x) (k : Wi B y) : Wi (A + B) (x - y) := ⟨by have := h.1; have := k.2; omega, by have := h.2; have := k.1; omega⟩
theorem Wi.mono {A B x : Int} (h : Wi A x) (k : A ≤ B) : Wi B x := ⟨by have := h.1; omega, by have := h.2; omega⟩
theorem Wi.neg {A x : Int} (h : Wi A x) : Wi A (-x) := ⟨by have := h.2; omega, by have := h.1; omega⟩
theorem Wi.nonneg {A x : Int} (h : Wi A x) : 0 ≤ A := by have := h.1; have := h.2; omega
/-- a factor taken away -/
theorem Wi.div {p x B : Int} (hp : p ≠ 0) (h : Wi ((p.natAbs : Int) * B) (p * x)) : Wi B x := by
  have hB : 0 ≤ B := by
    have h1 := h.nonneg
    rcases (show 0 ≤ B ∨ B < 0 by omega) with h2 | h2
    · exact h2
    · have h3 : (p.natAbs : Int) * B < 0 := Int.mul_neg_of_pos_of_neg (by omega) h2
      omega
  have h1 : (p * x).natAbs ≤ ((p.natAbs : Int) * B).natAbs := by have := h.1; have := h.2; omega
  rw [Int.natAbs_mul, Int.natAbs_mul, Int.natAbs_natCast] at h1
  have h2 : x.natAbs ≤ B.natAbs := Nat.le_of_mul_le_mul_left h1 (by omega)
  exact ⟨by omega, by omega⟩
/-- between nothing and a number -/
def Btw (r x : Int) : Prop := (0 ≤ r ∧ r ≤ x) ∨ (x ≤ r ∧ r ≤ 0)
theorem Btw.mul {r x A : Int} (h : Btw r x) : Btw (r * A) (x * A) := by
  rcases (show 0 ≤ A ∨ A < 0 by omega) with hA | hA
  · rcases h with ⟨h1, h2⟩ | ⟨h1, h2⟩
    · exact Or.inl ⟨Int.mul_nonneg h1 hA, Int.mul_le_mul_of_nonneg_right h2 hA⟩
    · exact Or.inr ⟨Int.mul_le_mul_of_nonneg_right h1 hA, Int.mul_nonpos_of_nonpos_of_nonneg h2 hA⟩
  · rcases h with ⟨h1, h2⟩ | ⟨h1, h2⟩
    · exact Or.inr ⟨Int.mul_le_mul_of_nonpos_right h2 (by omega), Int.mul_nonpos_of_nonneg_of_nonpos h1 (by omega)⟩
    · exact Or.inl ⟨Int.mul_nonneg_of_nonpos_of_nonpos h2 (by omega), Int.mul_le_mul_of_nonpos_right h1 (by omega)⟩
/-- the rest of a division towards nothing -/
theorem tmod_btw {x p : Int} (hp : p ≠ 0) : Btw (x - x.tdiv p * p) x ∧ (x - x.tdiv p * p).natAbs < p.natAbs := by
  have e : x - x.tdiv p * p = x.tmod p := by
    have := Int.tmod_add_mul_tdiv x p
    rw [Int.mul_comm] at this
    omega
  rw [e]
  have h1 : (x.tmod p).natAbs < p.natAbs := by
    rw [Int.natAbs_tmod]
    exact Nat.mod_lt _ (by omega)
  have h2 : (x.tmod p).natAbs ≤ x.natAbs := by
    rw [Int.natAbs_tmod]
    exact Nat.mod_le _ _
  refine ⟨?_, h1⟩
  rcases (show 0 ≤ x ∨ x < 0 by omega) with hx | hx
  · have h3 : 0 ≤ x.tmod p := Int.tmod_nonneg p hx
    exact Or.inl ⟨h3, by omega⟩
  · have h3 : 0 ≤ (-x).tmod p := Int.tmod_nonneg p (by omega)
    rw [Int.neg_tmod] at h3
    exact Or.inr ⟨by omega, by omega⟩
/-- two columns less a third: their cross with one number more -/
theorem cross_round {xp xc xe yp yc ye B : Int} (hp : xp ≠ 0) (h1 : Wi B (xp * yc - xc * yp)) (h2 : Wi B (xp * ye - xe * yp)) (h3 : Wi B (xc * ye - xe * yc)) : Wi B ((xc - xc.tdiv xp * xp) * (ye - xe.tdiv xp * yp) - (xe - xe.tdiv xp * xp) * (yc - xc.tdiv xp * yp)) := by
  obtain ⟨b1, l1⟩ := tmod_btw (x := xc) hp
  obtain ⟨b2, l2⟩ := tmod_btw (x := xe) hp
  generalize xc.tdiv xp = q at *
  generalize xe.tdiv xp = r at *
  refine Wi.div hp ?_
  have e : xp * ((xc - q * xp) * (ye - r * yp) - (xe - r * xp) * (yc - q * yp)) = (xc - q * xp) * (xp * ye - xe * yp) - (xe - r * xp) * (xp * yc - xc * yp) := by grind
  have e0 : xp * (xc * ye - xe * yc) = xc * (xp * ye - xe * yp) - xe * (xp * yc - xc * yp) := by grind
  have w0 : Wi ((xp.natAbs : Int) * B) (xp * (xc * ye - xe * yc)) := Wi.mul ⟨by omega, by omega⟩ h3
  have w1 : Wi ((xp.natAbs : Int) * B) ((xc - q * xp) * (xp * ye - xe * yp)) := Wi.mul ⟨by omega, by omega⟩ h2
  have w2 : Wi ((xp.natAbs : Int) * B) ((xe - r * xp) * (xp * yc - xc * yp)) := Wi.mul ⟨by omega, by omega⟩ h1
  have m1 := b1.mul (A := xp * ye - xe * yp)
  have m2 := b2.mul (A := xp * yc - xc * yp)
  rw [e0] at w0
  rw [e]
  generalize (xp.natAbs : Int) * B = M at *
  generalize (xc - q * xp) * (xp * ye - xe * yp) = a at *
  generalize (xe - r * xp) * (xp * yc - xc * yp) = b at *
  generalize xc * (xp * ye - xe * yp) = a0 at *
  generalize xe * (xp * yc - xc * yp) = b0 at *
  obtain ⟨w3, w4⟩ := w0
  obtain ⟨w5, w6⟩ := w1
  obtain ⟨w7, w8⟩ := w2
  unfold Btw at m1 m2
  constructor <;> omega
/-- a column less another: its number at another place -/
theorem value_round {xp xc yp yc B : Int} (hp : xp ≠ 0) (h1 : Wi B (xp * yc - xc * yp)) (h2 : Wi B yp) : Wi B (yc - xc.tdiv xp * yp) := by
  obtain ⟨b1, l1⟩ := tmod_btw (x := xc) hp
  generalize xc.tdiv xp = q at *
  have hB := h2.nonneg
  refine Wi.div hp ?_
  have e : xp * (yc - q * yp) = (xc - q * xp) * yp + (xp * yc - xc * yp) := by grind
  have w1 : Wi (((xp.natAbs : Int) - 1) * B) ((xc - q * xp) * yp) := Wi.mul ⟨by omega, by omega⟩ h2
  rw [e]
  refine (w1.add h1).mono ?_
  rw [Int.sub_mul]
  omega
/-- the cross with the one that is taken stays -/
theorem cross_pivot {xp xc yp yc q : Int} : xp * (yc - q * yp) - (xc - q * xp) * yp = xp * yc - xc * yp := by grind
end EUC
end
section
/-! the reference's columns: less one another, exchanged, the least sought -/
section COL
variable {σ : Mem}
/-- a row of longs written anew -/
def rwL (σ : Mem) (a : Nat) (f : Nat → Int64) : Mem := (σ.1, fun x y => if x = a then f y else σ.2 x y)
theorem rwL_a {a : Nat} {f : Nat → Int64} {y : Nat} : (rwL σ a f).2 a y = f y := if_pos rfl
theorem rwL_x {a x : Nat} {f : Nat → Int64} (h : x ≠ a) : (rwL σ a f).2 x = σ.2 x := funext (fun _ => if_neg h)
theorem rwL_w {a k : Nat} {f : Nat → Int64} {v : Int64} : wL (rwL σ a f) a k v = rwL σ a (fun y => if y = k then v else f y) := by
  refine Prod.ext rfl ?_
  funext x y
  show (if x = a ∧ y = k then v else if x = a then f y else σ.2 x y) = if x = a then (if y = k then v else f y) else σ.2 x y
  by_cases h1 : x = a
  · rw [if_pos h1, if_pos h1]
    by_cases h2 : y = k
    · rw [if_pos ⟨h1, h2⟩, if_pos h2]
    · rw [if_neg (fun q => h2 q.2), if_neg h2]
  · rw [if_neg (fun q => h1 q.1), if_neg h1, if_neg h1]
theorem rwL_congr {a : Nat} {f g : Nat → Int64} (h : ∀ y, f y = g y) : rwL σ a f = rwL σ a g := by rw [funext h]
theorem rwL_id {a : Nat} {f : Nat → Int64} (h : ∀ y, f y = σ.2 a y) : rwL σ a f = σ := by
  refine Prod.ext rfl ?_
  funext x y
  show (if x = a then f y else σ.2 x y) = σ.2 x y
  by_cases h1 : x = a
  · rw [if_pos h1, h, h1]
  · rw [if_neg h1]
theorem i32_18 : (18 : Int32) = i32 18 := rfl
theorem r_ofColumn {c j : Nat} (hc : c < 20) (hj : j < 18) : f_X11_ofColumn σ (i32 c) (i32 j) = some (σ.2 320 (18 * c + j)) := by
  unfold f_X11_ofColumn
  rw [i32_18, i32_mul, i32_add, e_gL ln_320 (by omega) (by omega)]
def lsF (r : Nat → Int64) (c p : Nat) (t : Int64) (i : Nat) : Nat → Int64 := fun y => if 18 * c ≤ y ∧ y < 18 * c + i then r y - t * r (18 * p + (y - 18 * c)) else r y
theorem r_lessens {c p : Nat} {t : Int64} (hc : c < 20) (hp : p < 20) (hcp : c ≠ p) : f_X11_lessens σ (i32 c) (i32 p) t = some (rwL σ 320 (lsF (σ.2 320) c p t 18)) := by
  unfold f_X11_lessens
  refine loop_at (body := fun (z2 : (Mem × Int32)) => l_X11_lessens_3 (i32 c) (i32 p) t z2.1 z2.2) (fun i => (rwL σ 320 (lsF (σ.2 320) c p t i), i32 i)) 0 18 ?_ (by omega) (fun i _ hi => ?_) ?_
  · refine Prod.ext (rwL_id (fun y => ?_)) rfl
    unfold lsF
    rw [if_neg (by omega)]
  · show l_X11_lessens_3 (i32 c) (i32 p) t (rwL σ 320 (lsF (σ.2 320) c p t i)) (i32 i) = _
    unfold l_X11_lessens_3
    rw [i32_18, if_neg (i_nle hi (by omega)), i32_mul, i32_mul, i32_add, i32_add, e_gL ln_320 (by omega) (by omega), e_gL ln_320 (by omega) (by omega), e_pL ln_320 (by omega) (by omega), rwL_w, rwL_a, rwL_a, i32_1, i32_add]
    refine congrArg (fun τ => some (Sum.inl (τ, i32 (i + 1)))) (rwL_congr (fun y => ?_))
    unfold lsF
    by_cases hy : y = 18 * c + i
    · rw [if_pos hy, hy, if_neg (by omega), if_neg (by omega), if_pos (by omega), show 18 * p + (18 * c + i - 18 * c) = 18 * p + i by omega]
    · rw [if_neg hy]
      by_cases h2 : 18 * c ≤ y ∧ y < 18 * c + i
      · rw [if_pos h2, if_pos (by omega)]
      · rw [if_neg h2, if_neg (by omega)]
  · show l_X11_lessens_3 (i32 c) (i32 p) t (rwL σ 320 (lsF (σ.2 320) c p t 18)) (i32 18) = _
    unfold l_X11_lessens_3
    rw [if_pos (by decide)]
def chF (r : Nat → Int64) (a b : Nat) (i : Nat) : Nat → Int64 := fun y => if 18 * a ≤ y ∧ y < 18 * a + i then r (18 * b + (y - 18 * a)) else if 18 * b ≤ y ∧ y < 18 * b + i then r (18 * a + (y - 18 * b)) else r y
theorem r_changes {a b : Nat} (ha : a < 20) (hb : b < 20) : f_X11_changes σ (i32 a) (i32 b) = some (rwL σ 320 (chF (σ.2 320) a b 18)) := by
  unfold f_X11_changes
  refine loop_at (body := fun (z2 : (Mem × Int32)) => l_X11_changes_2 (i32 a) (i32 b) z2.1 z2.2) (fun i => (rwL σ 320 (chF (σ.2 320) a b i), i32 i)) 0 18 ?_ (by omega) (fun i _ hi => ?_) ?_
  · refine Prod.ext (rwL_id (fun y => ?_)) rfl
    unfold chF
    rw [if_neg (by omega), if_neg (by omega)]
  · show l_X11_changes_2 (i32 a) (i32 b) (rwL σ 320 (chF (σ.2 320) a b i)) (i32 i) = _
    unfold l_X11_changes_2
    have va : chF (σ.2 320) a b i (18 * a + i) = σ.2 320 (18 * a + i) := by
      unfold chF
      rw [if_neg (by omega), if_neg (by omega)]
    have vb : chF (σ.2 320) a b i (18 * b + i) = σ.2 320 (18 * b + i) := by
      unfold chF
      rw [if_neg (by omega), if_neg (by omega)]
    rw [i32_18, if_neg (i_nle hi (by omega)), i32_mul, i32_mul, i32_add, i32_add, e_gL ln_320 (by omega) (by omega), e_gL ln_320 (by omega) (by omega), e_pL ln_320 (by omega) (by omega), rwL_w, e_pL ln_320 (by omega) (by omega), rwL_w, rwL_a, rwL_a, va, vb, i32_1, i32_add]
    refine congrArg (fun τ => some (Sum.inl (τ, i32 (i + 1)))) (rwL_congr (fun y => ?_))
    by_cases hb1 : y = 18 * b + i
    · rw [if_pos hb1]
      unfold chF
      by_cases hab : a = b
      · rw [if_pos (by omega), hb1, hab, show 18 * b + (18 * b + i - 18 * b) = 18 * b + i by omega]
      · rw [if_neg (by omega), if_pos (by omega), hb1, show 18 * a + (18 * b + i - 18 * b) = 18 * a + i by omega]
    · rw [if_neg hb1]
      by_cases ha1 : y = 18 * a + i
      · rw [if_pos ha1]
        unfold chF
        rw [if_pos (by omega), ha1, show 18 * b + (18 * a + i - 18 * a) = 18 * b + i by omega]
      · rw [if_neg ha1]
        unfold chF
        by_cases h2 : 18 * a ≤ y ∧ y < 18 * a + i
        · rw [if_pos h2, if_pos (by omega)]
        · rw [if_neg h2]
          by_cases h3 : 18 * b ≤ y ∧ y < 18 * b + i
          · rw [if_pos h3, if_neg (by omega), if_pos (by omega)]
          · rw [if_neg h3, if_neg (by omega), if_neg (by omega)]
  · show l_X11_changes_2 (i32 a) (i32 b) (rwL σ 320 (chF (σ.2 320) a b 18)) (i32 18) = _
    unfold l_X11_changes_2
    rw [if_pos (by decide)]
/-- the columns, as whole numbers -/
def Cl (σ : Mem) (C : Nat → Nat → Int) (m : Nat) : Prop := ∀ c j, c < m → j < 18 → σ.2 320 (18 * c + j) = oi (C c j)
def swpC (C : Nat → Nat → Int) (a b : Nat) : Nat → Nat → Int := fun c => if c = a then C b else if c = b then C a else C c
def lesC (C : Nat → Nat → Int) (e p : Nat) (q : Int) : Nat → Nat → Int := fun c => if c = e then (fun j => C e j - q * C p j) else C c
theorem Cl.swp {C : Nat → Nat → Int} {m a b : Nat} (h : Cl σ C m) (ha : a < m) (hb : b < m) : Cl (rwL σ 320 (chF (σ.2 320) a b 18)) (swpC C a b) m := by
  intro c j hc hj
  rw [rwL_a]
  unfold chF swpC
  by_cases h1 : c = a
  · rw [if_pos h1, if_pos (by omega), show 18 * b + (18 * c + j - 18 * a) = 18 * b + j by omega]
    exact h b j hb hj
  · rw [if_neg h1, if_neg (by omega)]
    by_cases h2 : c = b
    · rw [if_pos h2, if_pos (by omega), show 18 * a + (18 * c + j - 18 * b) = 18 * a + j by omega]
      exact h a j ha hj
    · rw [if_neg h2, if_neg (by omega)]
      exact h c j hc hj
theorem Cl.les {C : Nat → Nat → Int} {m e p : Nat} {q : Int} (h : Cl σ C m) (he : e < m) (hp : p < m) : Cl (rwL σ 320 (lsF (σ.2 320) e p (oi q) 18)) (lesC C e p q) m := by
  intro c j hc hj
  rw [rwL_a]
  unfold lsF lesC
  by_cases h1 : c = e
  · rw [if_pos h1, if_pos (by omega), h1, show 18 * p + (18 * e + j - 18 * e) = 18 * p + j by omega, h e j he hj, h p j hp hj, oi_mul, oi_sub]
  · rw [if_neg h1, if_neg (by omega)]
    exact h c j hc hj
end COL
end
section
/-! the reference clears a number: by the least, until the others are 0 there -/
section CLR
variable {σ : Mem}
theorem oi_is0 {x : Int} (h : Wi (2 ^ 62) x) : oi x = 0 ↔ x = 0 := by
  constructor
  · intro e
    have h1 := h.1
    have h2 := h.2
    have e2 := congrArg Int64.toInt e
    rw [oi_toInt (by omega) (by omega)] at e2
    exact e2
  · intro e
    rw [e]
    rfl
theorem oi_quo {x p : Int} (hx : Wi (2 ^ 62) x) (hp : Wi (2 ^ 62) p) : oi x / oi p = oi (x.tdiv p) := by
  have h1 := hx.1
  have h2 := hx.2
  have h3 := hp.1
  have h4 := hp.2
  have h5 : (x.tdiv p).natAbs ≤ x.natAbs := by
    rw [Int.natAbs_tdiv]
    exact Nat.div_le_self _ _
  rw [← Int64.toInt_inj, Int64.toInt_div, oi_toInt (by omega) (by omega), oi_toInt (by omega) (by omega), oi_toInt (by omega) (by omega)]
  apply Int.bmod_eq_of_le <;> omega
theorem oi_lew {a b : Int} (ha : Wi (2 ^ 62) a) (hb : Wi (2 ^ 62) b) : oi a ≤ oi b ↔ a ≤ b := by
  have h1 := ha.1
  have h2 := ha.2
  have h3 := hb.1
  have h4 := hb.2
  rw [Int64.le_iff_toInt_le, oi_toInt (by omega) (by omega), oi_toInt (by omega) (by omega)]
theorem oi_absL {x : Int} (h : Wi (2 ^ 62) x) : f_J9_abs_067f4 σ (oi x) = some (oi (x.natAbs : Int)) := by
  unfold f_J9_abs_067f4
  have h0 : Wi (2 ^ 62) 0 := ⟨by omega, by omega⟩
  have hz : (0 : Int64) ≤ oi x ↔ 0 ≤ x := oi_lew h0 h
  by_cases hx : 0 ≤ x
  · rw [if_pos (hz.mpr hx), show (x.natAbs : Int) = x by omega]
  · rw [if_neg (fun q => hx (hz.mp q)), oi_neg, show (x.natAbs : Int) = -x by omega]
theorem Wi.na {x : Int} (h : Wi (2 ^ 62) x) : Wi (2 ^ 62) (x.natAbs : Int) := ⟨by have := h.1; have := h.2; omega, by have := h.1; have := h.2; omega⟩
/-- the columns behind f less the column f, up to i -/
def rndC (C : Nat → Nat → Int) (f k i : Nat) : Nat → Nat → Int := fun c j => if f < c ∧ c < i then C c j - (C c k).tdiv (C f k) * C f j else C c j
theorem rnd_les {C : Nat → Nat → Int} {f k i : Nat} (h : f < i) : lesC (rndC C f k i) i f ((C i k).tdiv (C f k)) = rndC C f k (i + 1) := by
  funext c j
  unfold lesC
  by_cases h1 : c = i
  · subst h1
    rw [if_pos rfl]
    unfold rndC
    rw [if_neg (by omega), if_neg (by omega), if_pos (by omega)]
  · rw [if_neg h1]
    unfold rndC
    by_cases h2 : f < c ∧ c < i
    · rw [if_pos h2, if_pos (by omega)]
    · rw [if_neg h2, if_neg (by omega)]
theorem rnd_at {C : Nat → Nat → Int} {f k i c j : Nat} (h : ¬ (f < c ∧ c < i)) : rndC C f k i c j = C c j := if_neg h
theorem rnd_in {C : Nat → Nat → Int} {f k i c j : Nat} (h : f < c ∧ c < i) : rndC C f k i c j = C c j - (C c k).tdiv (C f k) * C f j := if_pos h
/-- what clearing may make of columns -/
def Cln (m f k : Nat) (C D : Nat → Nat → Int) : Prop := ∀ I : (Nat → Nat → Int) → Prop, (∀ E b, f ≤ b → b < m → I E → I (swpC E b f)) → (∀ E, E f k ≠ 0 → (∀ c, f ≤ c → c < m → E c k ≠ 0 → (E f k).natAbs ≤ (E c k).natAbs) → I E → I (rndC E f k m)) → I C → I D
theorem Cln.refl {m f k : Nat} {C : Nat → Nat → Int} : Cln m f k C C := fun _ _ _ h => h
theorem Cln.trans {m f k : Nat} {C D E : Nat → Nat → Int} (h : Cln m f k C D) (g : Cln m f k D E) : Cln m f k C E := fun I h1 h2 h3 => g I h1 h2 (h I h1 h2 h3)
/-- the least that is not 0 -/
def Bst (C : Nat → Nat → Int) (f i k : Nat) (r : Int32) : Prop := (r = -1 ∧ ∀ c, f ≤ c → c < i → C c k = 0) ∨ ∃ b, r = i32 b ∧ f ≤ b ∧ b < i ∧ C b k ≠ 0 ∧ ∀ c, f ≤ c → c < i → C c k ≠ 0 → (C b k).natAbs ≤ (C c k).natAbs
theorem r_best {C : Nat → Nat → Int} {m f k : Nat} (hm : m ≤ 20) (hfm : f ≤ m) (hk : k < 18) (hC : Cl σ C m) (h31 : σ.1 306 31 = i32 m) (hX : ∀ c, f ≤ c → c < m → Wi (2 ^ 62) (C c k)) : ∃ r, loopO (fun (z33 : (Int32 × Int32)) => l_X11_clearsAt_12 (i32 k) σ z33.1 z33.2) (-1, i32 f) = some r ∧ Bst C f m k r := by
  refine loop_inv (body := fun (z33 : (Int32 × Int32)) => l_X11_clearsAt_12 (i32 k) σ z33.1 z33.2) (fun n z => ∃ i r, f ≤ i ∧ i ≤ m ∧ n = m - i ∧ z = (r, i32 i) ∧ Bst C f i k r) _ ?_ (m - f) (-1, i32 f) ⟨f, -1, Nat.le_refl _, hfm, rfl, rfl, Or.inl ⟨rfl, fun c h1 h2 => by omega⟩⟩
  rintro n z ⟨i, r, h1, h2, rfl, rfl, hb⟩
  by_cases him : i = m
  · right
    subst him
    refine ⟨r, ?_, hb⟩
    show l_X11_clearsAt_12 (i32 k) σ r (i32 i) = _
    unfold l_X11_clearsAt_12
    rw [e_gF, h31, if_pos (i_le (Nat.le_refl _) (by omega))]
  · left
    have v := hC i k (by omega) hk
    have wi := hX i h1 (by omega)
    have go : ∀ r', Bst C f (i + 1) k r' → l_X11_clearsAt_12 (i32 k) σ r (i32 i) = some (Sum.inl (r', i32 (i + 1))) → ∃ s' n', n' < m - i ∧ l_X11_clearsAt_12 (i32 k) σ (r, i32 i).1 (r, i32 i).2 = some (Sum.inl s') ∧ ∃ i r, f ≤ i ∧ i ≤ m ∧ n' = m - i ∧ s' = (r, i32 i) ∧ Bst C f i k r := fun r' hb' e => ⟨(r', i32 (i + 1)), m - (i + 1), by omega, e, i + 1, r', by omega, by omega, rfl, rfl, hb'⟩
    have body : ∀ r', (if oi (C i k) = 0 then (some r) else ((if r = (-1) then (some (Sum.inl ())) else ((some (oi (C i k)) : Option Int64).bind (fun (v37 : Int64) => (f_J9_abs_067f4 σ v37).bind (fun (v38 : Int64) => (f_X11_ofColumn σ r (i32 k)).bind (fun (v39 : Int64) => (f_J9_abs_067f4 σ v39).bind (fun (v40 : Int64) => if v40 ≤ v38 then (some (Sum.inr r)) else (some (Sum.inl ()))))))) : Option (Unit ⊕ Int32)).bind (Sum.elim (fun (z36 : Unit) => j_X11_clearsAt_61 (i32 i)) some)) : Option Int32) = some r' → l_X11_clearsAt_12 (i32 k) σ r (i32 i) = some (Sum.inl (r', i32 (i + 1))) := fun r' e => by
      unfold l_X11_clearsAt_12
      rw [e_gF, h31, if_neg (i_nle (by omega) (by omega)), r_ofColumn (by omega) hk, e_bs, v, e, e_bs]
      unfold j_X11_clearsAt_64
      rw [i32_1, i32_add]
    by_cases x0 : C i k = 0
    · refine go r ?_ (body r (by rw [if_pos ((oi_is0 wi).mpr x0)]))
      rcases hb with ⟨rfl, hz⟩ | ⟨b, rfl, b1, b2, b3, b4⟩
      · refine Or.inl ⟨rfl, fun c c1 c2 => ?_⟩
        by_cases hci : c = i
        · rw [hci]; exact x0
        · exact hz c c1 (by omega)
      · refine Or.inr ⟨b, rfl, b1, by omega, b3, fun c c1 c2 c3 => ?_⟩
        by_cases hci : c = i
        · rw [hci] at c3; exact absurd x0 c3
        · exact b4 c c1 (by omega) c3
    · have hne : ¬ oi (C i k) = 0 := fun q => x0 ((oi_is0 wi).mp q)
      rcases hb with ⟨rfl, hz⟩ | ⟨b, rfl, b1, b2, b3, b4⟩
      · refine go (i32 i) (Or.inr ⟨i, rfl, h1, by omega, x0, fun c c1 c2 c3 => ?_⟩) (body _ ?_)
        · by_cases hci : c = i
          · rw [hci]; exact Nat.le_refl _
          · exact absurd (hz c c1 (by omega)) c3
        · rw [if_neg hne, if_pos rfl, e_bs]
          rfl
      · have wb := hX b b1 (by omega)
        have cmp : (if i32 b = (-1) then (some (Sum.inl ())) else ((some (oi (C i k)) : Option Int64).bind (fun (v37 : Int64) => (f_J9_abs_067f4 σ v37).bind (fun (v38 : Int64) => (f_X11_ofColumn σ (i32 b) (i32 k)).bind (fun (v39 : Int64) => (f_J9_abs_067f4 σ v39).bind (fun (v40 : Int64) => if v40 ≤ v38 then (some (Sum.inr (i32 b))) else (some (Sum.inl ()))))))) : Option (Unit ⊕ Int32)) = if (C b k).natAbs ≤ (C i k).natAbs then some (Sum.inr (i32 b)) else some (Sum.inl ()) := by
          rw [if_neg (ne_m1 (by omega)), e_bs, oi_absL wi, e_bs, r_ofColumn (by omega) hk, e_bs, hC b k (by omega) hk, oi_absL wb, e_bs]
          by_cases hle : (C b k).natAbs ≤ (C i k).natAbs
          · rw [if_pos ((oi_lew wb.na wi.na).mpr (by omega)), if_pos hle]
          · rw [if_neg (fun q => hle (by have := (oi_lew wb.na wi.na).mp q; omega)), if_neg hle]
        by_cases hle : (C b k).natAbs ≤ (C i k).natAbs
        · refine go (i32 b) (Or.inr ⟨b, rfl, b1, by omega, b3, fun c c1 c2 c3 => ?_⟩) (body _ ?_)
          · by_cases hci : c = i
            · rw [hci]; exact hle
            · exact b4 c c1 (by omega) c3
          · rw [if_neg hne, cmp, if_pos hle, e_bs]
            rfl
        · refine go (i32 i) (Or.inr ⟨i, rfl, h1, by omega, x0, fun c c1 c2 c3 => ?_⟩) (body _ ?_)
          · by_cases hci : c = i
            · rw [hci]; exact Nat.le_refl _
            · have := b4 c c1 (by omega) c3
              omega
          · rw [if_neg hne, cmp, if_neg hle, e_bs]
            rfl
/-- nothing but columns has changed -/
def FC0 (σ τ : Mem) : Prop := τ.1 = σ.1 ∧ ∀ x, x ≠ 320 → τ.2 x = σ.2 x
theorem FC0.refl : FC0 σ σ := ⟨rfl, fun _ _ => rfl⟩
theorem FC0.trans {τ υ : Mem} (h : FC0 σ τ) (k : FC0 τ υ) : FC0 σ υ := ⟨k.1.trans h.1, fun x hx => (k.2 x hx).trans (h.2 x hx)⟩
theorem FC0.rw {f : Nat → Int64} : FC0 σ (rwL σ 320 f) := ⟨rfl, fun x hx => rwL_x hx⟩
theorem Cl.congr {C D : Nat → Nat → Int} {m : Nat} (h : Cl σ C m) (e : ∀ c j, c < m → j < 18 → D c j = C c j) : Cl σ D m := fun c j hc hj => by rw [e c j hc hj]; exact h c j hc hj
theorem r_round {C : Nat → Nat → Int} {m f k : Nat} (hm : m ≤ 20) (hfm : f < m) (hk : k < 18) (hC : Cl σ C m) (h31 : σ.1 306 31 = i32 m) (hX : ∀ c, f ≤ c → c < m → Wi (2 ^ 62) (C c k)) (h0 : C f k ≠ 0) : ∃ mo τ, loopO (fun (z25 : (Mem × Int32 × Int32)) => l_X11_clearsAt_106 (i32 f) (i32 k) z25.1 z25.2.1 z25.2.2) (σ, 0, i32 (f + 1)) = some (τ, b2i mo) ∧ FC0 σ τ ∧ Cl τ (rndC C f k m) m ∧ (mo = true ↔ ∃ c, f < c ∧ c < m ∧ rndC C f k m c k ≠ 0) := by
  have hl := loop_inv (body := fun (z25 : (Mem × Int32 × Int32)) => l_X11_clearsAt_106 (i32 f) (i32 k) z25.1 z25.2.1 z25.2.2) (fun n z => ∃ i τ mo, f < i ∧ i ≤ m ∧ n = m - i ∧ z = (τ, b2i mo, i32 i) ∧ FC0 σ τ ∧ Cl τ (rndC C f k i) m ∧ (mo = true ↔ ∃ c, f < c ∧ c < i ∧ rndC C f k i c k ≠ 0)) (fun x => ∃ mo τ, x = (τ, b2i mo) ∧ FC0 σ τ ∧ Cl τ (rndC C f k m) m ∧ (mo = true ↔ ∃ c, f < c ∧ c < m ∧ rndC C f k m c k ≠ 0)) ?_ (m - (f + 1)) (σ, 0, i32 (f + 1)) ⟨f + 1, σ, false, by omega, by omega, rfl, rfl, FC0.refl, hC.congr (fun c j _ _ => rnd_at (by omega)), fun z => absurd z (by decide), fun ⟨c, c1, c2, _⟩ => by omega⟩
  · obtain ⟨x, e, mo, τ, rfl, h1, h2, h3⟩ := hl
    exact ⟨mo, τ, e, h1, h2, h3⟩
  · rintro n z ⟨i, τ, mo, h1, h2, rfl, rfl, fr, hc, hmo⟩
    have g31 : τ.1 306 31 = i32 m := by rw [fr.1]; exact h31
    by_cases him : i = m
    · right
      subst him
      refine ⟨_, ?_, mo, τ, rfl, fr, hc, hmo⟩
      show l_X11_clearsAt_106 (i32 f) (i32 k) τ (b2i mo) (i32 i) = _
      unfold l_X11_clearsAt_106
      rw [e_gF, g31, if_pos (i_le (Nat.le_refl _) (by omega))]
    · left
      have i20 : i < 20 := by omega
      have wi := hX i (by omega) (by omega)
      have wf := hX f (Nat.le_refl _) hfm
      have vi : τ.2 320 (18 * i + k) = oi (C i k) := by rw [hc i k (by omega) hk, rnd_at (by omega)]
      have vf : τ.2 320 (18 * f + k) = oi (C f k) := by rw [hc f k (by omega) hk, rnd_at (by omega)]
      have hlc := hc.les (e := i) (p := f) (q := (C i k).tdiv (C f k)) (by omega) (by omega)
      rw [rnd_les h1] at hlc
      have e1 := r_lessens (σ := τ) (c := i) (p := f) (t := oi ((C i k).tdiv (C f k))) (by omega) (by omega) (by omega)
      have fr2 : FC0 σ (rwL τ 320 (lsF (τ.2 320) i f (oi ((C i k).tdiv (C f k))) 18)) := fr.trans FC0.rw
      generalize rwL τ 320 (lsF (τ.2 320) i f (oi ((C i k).tdiv (C f k))) 18) = τ2 at *
      have v31 : τ2.2 320 (18 * i + k) = oi (rndC C f k (i + 1) i k) := hlc i k (by omega) hk
      have hr : rndC C f k (i + 1) i k = C i k - (C i k).tdiv (C f k) * C f k := rnd_in (by omega)
      have hmod := (tmod_btw (x := C i k) h0).2
      have wr : Wi (2 ^ 62) (rndC C f k (i + 1) i k) := by
        rw [hr]
        have := wf.1
        have := wf.2
        exact ⟨by omega, by omega⟩
      have hold : ∀ c, f < c → c < i → rndC C f k (i + 1) c k = rndC C f k i c k := fun c c1 c2 => by rw [rnd_in ⟨c1, by omega⟩, rnd_in ⟨c1, c2⟩]
      have hbody : ∀ mo', ((if b2i mo = 0 then ((f_X11_ofColumn τ2 (i32 i) (i32 k)).bind (fun (v31 : Int64) => if v31 = 0 then (some (Sum.inr false)) else (some (Sum.inl ())))) else (some (Sum.inl ())) : Option (Unit ⊕ Bool)).bind (Sum.elim (fun (z30 : Unit) => j_X11_clearsAt_153) some) : Option Bool) = some mo' → l_X11_clearsAt_106 (i32 f) (i32 k) τ (b2i mo) (i32 i) = some (Sum.inl (τ2, b2i mo', i32 (i + 1))) := fun mo' e => by
        unfold l_X11_clearsAt_106
        rw [e_gF, g31, if_neg (i_nle (by omega) (by omega)), r_ofColumn (by omega) hk, e_bs, r_ofColumn (by omega) hk, e_bs, vi, vf, e_nzL (fun q => h0 ((oi_is0 wf).mp q)), oi_quo wi wf, e1, e_bs, e, e_bs]
        unfold j_X11_clearsAt_158
        rw [i32_1, i32_add]
      have fin : ∀ mo', (mo' = true ↔ mo = true ∨ rndC C f k (i + 1) i k ≠ 0) → l_X11_clearsAt_106 (i32 f) (i32 k) τ (b2i mo) (i32 i) = some (Sum.inl (τ2, b2i mo', i32 (i + 1))) → ∃ s' n', n' < m - i ∧ l_X11_clearsAt_106 (i32 f) (i32 k) (τ, b2i mo, i32 i).1 (τ, b2i mo, i32 i).2.1 (τ, b2i mo, i32 i).2.2 = some (Sum.inl s') ∧ ∃ i τ mo, f < i ∧ i ≤ m ∧ n' = m - i ∧ s' = (τ, b2i mo, i32 i) ∧ FC0 σ τ ∧ Cl τ (rndC C f k i) m ∧ (mo = true ↔ ∃ c, f < c ∧ c < i ∧ rndC C f k i c k ≠ 0) := fun mo' hm' e => by
        refine ⟨(τ2, b2i mo', i32 (i + 1)), m - (i + 1), by omega, e, i + 1, τ2, mo', by omega, by omega, rfl, rfl, fr2, hlc, ?_⟩
        rw [hm', hmo]
        constructor
        · rintro (⟨c, c1, c2, c3⟩ | q)
          · exact ⟨c, c1, by omega, by rw [hold c c1 c2]; exact c3⟩
          · exact ⟨i, h1, by omega, q⟩
        · rintro ⟨c, c1, c2, c3⟩
          by_cases hci : c = i
          · rw [hci] at c3; exact Or.inr c3
          · exact Or.inl ⟨c, c1, by omega, by rw [← hold c c1 (by omega)]; exact c3⟩
      cases mo with
      | true =>
        refine fin true ⟨fun _ => Or.inl rfl, fun _ => rfl⟩ (hbody true ?_)
        rw [if_neg (by decide), e_bs]
        rfl
      | false =>
        by_cases hz : rndC C f k (i + 1) i k = 0
        · refine fin false ⟨fun q => absurd q (by decide), fun q => by rcases q with q | q; exact absurd q (by decide); exact absurd hz q⟩ (hbody false ?_)
          rw [if_pos (show b2i false = 0 from rfl), r_ofColumn i20 hk, e_bs, v31, if_pos ((oi_is0 wr).mpr hz), e_bs]
          rfl
        · refine fin true ⟨fun _ => Or.inr hz, fun _ => rfl⟩ (hbody true ?_)
          rw [if_pos (show b2i false = 0 from rfl), r_ofColumn i20 hk, e_bs, v31, if_neg (fun q => hz ((oi_is0 wr).mp q)), e_bs]
          rfl
end CLR
end
section
/-! the reference clears a number, then all six -/
section CMK
variable {σ : Mem}
theorem swp_f {C : Nat → Nat → Int} {b f : Nat} : swpC C b f f = C b := by
  unfold swpC
  by_cases h : f = b
  · rw [if_pos h, h]
  · rw [if_neg h, if_pos rfl]
theorem swp_perm {C : Nat → Nat → Int} {m b f c : Nat} (hb : f ≤ b) (hb2 : b < m) (h1 : f ≤ c) (h2 : c < m) : ∃ e, f ≤ e ∧ e < m ∧ swpC C b f c = C e := by
  unfold swpC
  by_cases h : c = b
  · exact ⟨f, Nat.le_refl _, by omega, by rw [if_pos h]⟩
  · by_cases h3 : c = f
    · exact ⟨b, hb, hb2, by rw [if_neg h, if_pos h3]⟩
    · exact ⟨c, h1, h2, by rw [if_neg h, if_neg h3]⟩
theorem r_clearLoop {C : Nat → Nat → Int} {m f k : Nat} (hm : m ≤ 20) (hfm : f ≤ m) (hk : k < 18) (hC : Cl σ C m) (h31 : σ.1 306 31 = i32 m) (hX : ∀ c, f ≤ c → c < m → Wi (2 ^ 62) (C c k)) : ∃ x, loopO (fun (z16 : (Mem × Int32)) => l_X11_clearsAt_2 (i32 f) (i32 k) z16.1 z16.2) (σ, i32 f) = some x ∧ ∃ τ D, FC0 σ τ ∧ Cl τ D m ∧ Cln m f k C D ∧ (∀ c, f ≤ c → c < m → Wi (2 ^ 62) (D c k)) ∧ ((x = Sum.inl τ ∧ ∀ c, f ≤ c → c < m → D c k = 0) ∨ (x = Sum.inr (Sum.inl τ) ∧ f < m ∧ D f k ≠ 0 ∧ ∀ c, f < c → c < m → D c k = 0)) := by
  refine loop_inv (body := fun (z16 : (Mem × Int32)) => l_X11_clearsAt_2 (i32 f) (i32 k) z16.1 z16.2) (fun n z => ∃ τ D r, z = (τ, r) ∧ FC0 σ τ ∧ Cl τ D m ∧ Cln m f k C D ∧ (∀ c, f ≤ c → c < m → Wi (2 ^ 62) (D c k)) ∧ ((r = -1 ∧ f < m ∧ D f k ≠ 0 ∧ ∀ c, f < c → c < m → D c k = 0) ∨ (r ≠ -1 ∧ ((∀ c, f ≤ c → c < m → D c k = 0) ∨ ∃ c, f ≤ c ∧ c < m ∧ D c k ≠ 0 ∧ (D c k).natAbs < n)))) _ ?_ (2 ^ 62 + 1) (σ, i32 f) ⟨σ, C, i32 f, rfl, FC0.refl, hC, Cln.refl, hX, Or.inr ⟨ne_m1 (by omega), ?_⟩⟩
  · rintro n z ⟨τ, D, r, rfl, fr, hD, hcl, hW, hr⟩
    have g31 : τ.1 306 31 = i32 m := by rw [fr.1]; exact h31
    rcases hr with ⟨rfl, a1, a2, a3⟩ | ⟨hne, hmeas⟩
    · right
      refine ⟨_, ?_, τ, D, fr, hD, hcl, hW, Or.inr ⟨rfl, a1, a2, a3⟩⟩
      show l_X11_clearsAt_2 (i32 f) (i32 k) τ (-1) = _
      unfold l_X11_clearsAt_2
      rw [if_pos rfl]
    · obtain ⟨r2, e2, hb⟩ := r_best (σ := τ) hm hfm hk hD g31 hW
      rcases hb with ⟨rfl, hz⟩ | ⟨b, rfl, b1, b2, b3, b4⟩
      · right
        refine ⟨_, ?_, τ, D, fr, hD, hcl, hW, Or.inl ⟨rfl, hz⟩⟩
        show l_X11_clearsAt_2 (i32 f) (i32 k) τ r = _
        unfold l_X11_clearsAt_2
        rw [if_neg hne, e2, e_bs]
        unfold j_X11_clearsAt_70
        rw [if_pos rfl]
      · have hfm' : f < m := by omega
        have e3 := r_changes (σ := τ) (a := b) (b := f) (by omega) (by omega)
        have hS := hD.swp (a := b) (b := f) b2 hfm'
        have frS : FC0 σ (rwL τ 320 (chF (τ.2 320) b f 18)) := fr.trans FC0.rw
        generalize rwL τ 320 (chF (τ.2 320) b f 18) = τ1 at e3 hS frS
        have clS : Cln m f k C (swpC D b f) := fun I i1 i2 i3 => i1 D b b1 b2 (hcl I i1 i2 i3)
        have hWS : ∀ c, f ≤ c → c < m → Wi (2 ^ 62) (swpC D b f c k) := fun c c1 c2 => by
          obtain ⟨e, q1, q2, q3⟩ := swp_perm (C := D) b1 b2 c1 c2
          rw [q3]
          exact hW e q1 q2
        have hpf : swpC D b f f k = D b k := by rw [swp_f]
        have h0 : swpC D b f f k ≠ 0 := by rw [hpf]; exact b3
        have hmin : ∀ c, f ≤ c → c < m → swpC D b f c k ≠ 0 → (swpC D b f f k).natAbs ≤ (swpC D b f c k).natAbs := fun c c1 c2 c3 => by
          obtain ⟨e, q1, q2, q3⟩ := swp_perm (C := D) b1 b2 c1 c2
          rw [q3] at c3 ⊢
          rw [hpf]
          exact b4 e q1 q2 c3
        have g31' : τ1.1 306 31 = i32 m := by rw [frS.1]; exact h31
        obtain ⟨mo, τ2, e4, fr4, hR, hmo⟩ := r_round (σ := τ1) hm hfm' hk hS g31' hWS h0
        have clR : Cln m f k C (rndC (swpC D b f) f k m) := fun I i1 i2 i3 => i2 _ h0 hmin (clS I i1 i2 i3)
        have hmod : ∀ c, f < c → c < m → (rndC (swpC D b f) f k m c k).natAbs < (D b k).natAbs := fun c c1 c2 => by
          rw [rnd_in ⟨c1, c2⟩, ← hpf]
          exact (tmod_btw h0).2
        have wb := hW b b1 b2
        have hrf : rndC (swpC D b f) f k m f k = D b k := by rw [rnd_at (by omega), hpf]
        have hWR : ∀ c, f ≤ c → c < m → Wi (2 ^ 62) (rndC (swpC D b f) f k m c k) := fun c c1 c2 => by
          by_cases hcf : c = f
          · rw [hcf, hrf]; exact wb
          · have := hmod c (by omega) c2
            have := wb.1
            have := wb.2
            exact ⟨by omega, by omega⟩
        have hbody : l_X11_clearsAt_2 (i32 f) (i32 k) τ r = some (Sum.inl (τ2, if mo = true then i32 b else -1)) := by
          unfold l_X11_clearsAt_2
          rw [if_neg hne, e2, e_bs]
          unfold j_X11_clearsAt_70
          rw [if_neg (ne_m1 (by omega)), e3, e_bs, e_bd, i32_1, i32_add, e4, e_bs]
          show j_X11_clearsAt_166 (i32 b) τ2 (b2i mo) = _
          unfold j_X11_clearsAt_166
          cases mo with
          | true => rw [if_neg (by decide), e_bs, if_pos rfl]; rfl
          | false => rw [if_pos (show b2i false = 0 from rfl), e_bs, if_neg (by decide)]; rfl
        left
        have hlt : (D b k).natAbs < n := by
          rcases hmeas with q | ⟨c, c1, c2, c3, c4⟩
          · exact absurd (q b b1 b2) b3
          · have := b4 c c1 c2 c3
            omega
        refine ⟨(τ2, if mo = true then i32 b else -1), (D b k).natAbs, hlt, hbody, τ2, rndC (swpC D b f) f k m, _, rfl, frS.trans fr4, hR, clR, hWR, ?_⟩
        cases mo with
        | true =>
          obtain ⟨c, c1, c2, c3⟩ := hmo.mp rfl
          exact Or.inr ⟨by rw [if_pos rfl]; exact ne_m1 (by omega), Or.inr ⟨c, by omega, c2, c3, hmod c c1 c2⟩⟩
        | false =>
          refine Or.inl ⟨by rw [if_neg (by decide)], hfm', by rw [hrf]; exact b3, fun c c1 c2 => ?_⟩
          refine Classical.byContradiction (fun q => ?_)
          exact absurd (hmo.mpr ⟨c, c1, c2, q⟩) (by decide)
  · by_cases hz : ∀ c, f ≤ c → c < m → C c k = 0
    · exact Or.inl hz
    · refine Or.inr (Classical.byContradiction (fun q => hz (fun c c1 c2 => Classical.byContradiction (fun z => q ⟨c, c1, c2, z, ?_⟩))))
      have := (hX c c1 c2).1
      have := (hX c c1 c2).2
      omega
/-- what is due -/
def Du (σ : Mem) (d : Nat → Int) : Prop := ∀ j, j < 18 → σ.2 321 j = oi (d j)
/-- what making changes -/
def FCm (σ τ : Mem) : Prop := (∀ x, x ≠ 306 → τ.1 x = σ.1 x) ∧ (∀ c, c ≠ 33 → c ≠ 34 → τ.1 306 c = σ.1 306 c) ∧ ∀ x, x ≠ 320 → x ≠ 321 → τ.2 x = σ.2 x
theorem FCm.refl : FCm σ σ := ⟨fun _ _ => rfl, fun _ _ _ => rfl, fun _ _ _ => rfl⟩
theorem FCm.trans {τ υ : Mem} (h : FCm σ τ) (k : FCm τ υ) : FCm σ υ := ⟨fun x h1 => (k.1 x h1).trans (h.1 x h1), fun c h1 h2 => (k.2.1 c h1 h2).trans (h.2.1 c h1 h2), fun x h1 h2 => (k.2.2 x h1 h2).trans (h.2.2 x h1 h2)⟩
theorem FC0.cm {τ : Mem} (h : FC0 σ τ) : FCm σ τ := ⟨fun x _ => by rw [h.1], fun c _ _ => by rw [h.1], fun x h1 _ => h.2 x h1⟩
theorem FCm.fld {c : Nat} {v : Int32} (h : c = 33 ∨ c = 34) : FCm σ (wI σ 306 c v) := ⟨fun x hx => by funext y; rw [wI_1, if_neg (fun q => hx q.1)], fun d h1 h2 => by rw [wI_1, if_neg (by omega)], fun _ _ _ => rfl⟩
theorem r_dueLess {f : Nat} {t : Int64} (hf : f < 20) : loopO (fun (z9 : (Mem × Int32)) => l_X11_clearsAt_219 (i32 f) t z9.1 z9.2) (σ, 0) = some (true, rwL σ 321 (fun y => if y < 18 then σ.2 321 y - t * σ.2 320 (18 * f + y) else σ.2 321 y)) := by
  refine loop_at (body := fun (z9 : (Mem × Int32)) => l_X11_clearsAt_219 (i32 f) t z9.1 z9.2) (fun i => (rwL σ 321 (fun y => if y < i then σ.2 321 y - t * σ.2 320 (18 * f + y) else σ.2 321 y), i32 i)) 0 18 ?_ (by omega) (fun i _ hi => ?_) ?_
  · exact Prod.ext (rwL_id (fun y => if_neg (Nat.not_lt_zero _))) rfl
  · show l_X11_clearsAt_219 (i32 f) t (rwL σ 321 (fun y => if y < i then σ.2 321 y - t * σ.2 320 (18 * f + y) else σ.2 321 y)) (i32 i) = _
    unfold l_X11_clearsAt_219
    rw [i32_18, if_neg (i_nle hi (by omega)), e_gL ln_321 (by omega) (by omega), r_ofColumn hf (by omega), e_bs, e_pL ln_321 (by omega) (by omega), rwL_w, rwL_a, if_neg (Nat.lt_irrefl _), rwL_x (by omega), i32_1, i32_add]
    refine congrArg (fun τ => some (Sum.inl (τ, i32 (i + 1)))) (rwL_congr (fun y => ?_))
    by_cases hy : y = i
    · rw [if_pos hy, hy, if_pos (by omega)]
    · rw [if_neg hy]
      by_cases h2 : y < i
      · rw [if_pos h2, if_pos (by omega)]
      · rw [if_neg h2, if_neg (by omega)]
  · show l_X11_clearsAt_219 (i32 f) t (rwL σ 321 (fun y => if y < 18 then σ.2 321 y - t * σ.2 320 (18 * f + y) else σ.2 321 y)) (i32 18) = _
    unfold l_X11_clearsAt_219
    rw [if_pos (by decide)]
/-- one number cleared: what comes of it -/
def Clo (m f k : Nat) (C D : Nat → Nat → Int) (d : Nat → Int) (b pv : Bool) (d' : Nat → Int) : Prop := (pv = false ∧ (∀ c, f ≤ c → c < m → D c k = 0) ∧ (b = true ↔ d k = 0) ∧ d' = d) ∨ (pv = true ∧ f < m ∧ D f k ≠ 0 ∧ (∀ c, f < c → c < m → D c k = 0) ∧ (b = true ↔ (d k).tdiv (D f k) * D f k = d k) ∧ (b = true → d' = fun j => d j - (d k).tdiv (D f k) * D f j))
theorem r_clearsAt {C : Nat → Nat → Int} {d : Nat → Int} {m f k : Nat} (hm : m ≤ 20) (hfm : f ≤ m) (hk : k < 18) (hC : Cl σ C m) (hd : Du σ d) (h31 : σ.1 306 31 = i32 m) (h33 : σ.1 306 33 = 0) (hX : ∀ c, f ≤ c → c < m → Wi (2 ^ 62) (C c k)) (hdk : Wi (2 ^ 62) (d k)) : ∃ b pv τ D d', f_X11_clearsAt σ (i32 f) (i32 k) = some (b, τ) ∧ FCm σ τ ∧ τ.1 306 34 = σ.1 306 34 ∧ τ.1 306 33 = b2i pv ∧ Cl τ D m ∧ Cln m f k C D ∧ (b = true → Du τ d') ∧ Clo m f k C D d b pv d' := by
  obtain ⟨x, e, τ, D, fr, hD, hcl, hW, hx⟩ := r_clearLoop hm hfm hk hC h31 hX
  have g33 : τ.1 306 33 = 0 := by rw [fr.1]; exact h33
  have hdτ : Du τ d := fun j hj => by rw [fr.2 321 (by omega)]; exact hd j hj
  unfold f_X11_clearsAt
  rw [e, e_bs]
  rcases hx with ⟨rfl, hz⟩ | ⟨rfl, hf1, hp, hz⟩
  · refine ⟨decide (d k = 0), false, τ, D, d, ?_, fr.cm, by rw [fr.1], g33, hD, hcl, fun _ => hdτ, Or.inl ⟨rfl, hz, by rw [decide_eq_true_eq], rfl⟩⟩
    show (j_X11_clearsAt_75 (i32 k) τ).bind _ = _
    unfold j_X11_clearsAt_75
    rw [e_gL ln_321 hk (by omega), hdτ k hk]
    by_cases h0 : d k = 0
    · rw [if_pos ((oi_is0 hdk).mpr h0), e_bs, decide_eq_true h0]
      rfl
    · rw [if_neg (fun q => h0 ((oi_is0 hdk).mp q)), e_bs, decide_eq_false h0]
      rfl
  · have wf := hW f (Nat.le_refl _) hf1
    have fr1 : FCm σ (wI τ 306 33 1) := fr.cm.trans (FCm.fld (by omega))
    have q1 : (wI τ 306 33 1).1 306 34 = σ.1 306 34 := by rw [wI_1, if_neg (by omega), fr.1]
    have q2 : (wI τ 306 33 1).1 306 33 = b2i true := by rw [wI_1, if_pos ⟨rfl, rfl⟩]; rfl
    have hD1 : Cl (wI τ 306 33 1) D m := hD
    have vd : (wI τ 306 33 1).2 321 k = oi (d k) := hdτ k hk
    have vp : f_X11_ofColumn (wI τ 306 33 1) (i32 f) (i32 k) = some (oi (D f k)) := by rw [r_ofColumn (by omega) hk]; exact congrArg some (hD f k hf1 hk)
    have np : oi (D f k) ≠ 0 := fun q => hp ((oi_is0 wf).mp q)
    have hmod := tmod_btw (x := d k) hp
    have wm : Wi (2 ^ 62) (d k - (d k).tdiv (D f k) * D f k) := by
      have := wf.1
      have := wf.2
      exact ⟨by omega, by omega⟩
    show ∃ b pv τ' D d', (j_X11_clearsAt_176 (i32 f) (i32 k) τ) = some (b, τ') ∧ _
    unfold j_X11_clearsAt_176
    rw [e_pF, e_gL ln_321 hk (by omega), vp, e_bs, e_nzL np, vd, oi_quo hdk wf, oi_mul, oi_sub]
    by_cases h0 : (d k).tdiv (D f k) * D f k = d k
    · rw [if_pos ((oi_is0 wm).mpr (by omega)), e_gL ln_321 hk (by omega), vd, e_bs, e_nzL np, e_bd, oi_quo hdk wf, r_dueLess (by omega)]
      refine ⟨true, true, _, D, _, rfl, fr1.trans ⟨fun _ _ => rfl, fun _ _ _ => rfl, fun x _ h2 => rwL_x h2⟩, q1, q2, fun c j hc hj => by rw [rwL_x (by omega)]; exact hD c j hc hj, hcl, fun _ j hj => ?_, Or.inr ⟨rfl, hf1, hp, hz, ⟨fun _ => h0, fun _ => rfl⟩, fun _ => rfl⟩⟩
      rw [rwL_a, if_pos hj]
      show τ.2 321 j - oi _ * τ.2 320 (18 * f + j) = _
      rw [hdτ j hj, hD f j hf1 hj, oi_mul, oi_sub]
    · rw [if_neg (fun q => h0 (by have := (oi_is0 wm).mp q; omega))]
      exact ⟨false, true, _, D, d, rfl, fr1, q1, q2, hD1, hcl, fun q => absurd q (by decide), Or.inr ⟨rfl, hf1, hp, hz, ⟨fun q => absurd q (by decide), fun q => absurd q h0⟩, fun q => absurd q (by decide)⟩⟩
end CMK
end
