/-! square brackets closed, factors, words; both readers -/
section WRD
variable {σ : Mem} {w : List Nat}
/-- the reference's way out of square brackets -/
noncomputable def rsq (rec : Mem → Int32 → Option Mem) (x : Option Mem) : Option Mem := (x.bind (fun (z9 : Mem) => j_X11_readOpen_72 rec z9)).bind (fun (σ5 : Mem) => j_X11_readFactor_134 rec σ5)
theorem r_sq_dead {S : AS} {rec : Mem → Int32 → Option Mem} {ρ : Mem} {f : SF} {q d p : Nat} {rr : Mem ⊕ Mem} (hR : BR (aG S) (aR S) w ρ) (hrr : rr = Sum.inl (PS ρ f) ∨ rr = Sum.inr (PS ρ f)) (h : DE w ρ q (d + 1) p) : ∃ ρ' p', rsq rec ((some rr).bind (Sum.elim (fun (z1 : Mem) => j_X11_readCommutator_82 rec z1) some)) = some (PS ρ' f) ∧ FRr ρ ρ' ∧ DE w ρ' q d p' ∧ p ≤ p' := by
  rcases hrr with rfl | rfl
  · obtain ⟨ρ2, p2, e3, fr2, de2, hp2, _⟩ := r_must_dead (f := f) (c := 93) hR.2.2.1 h (by decide)
    obtain ⟨ρ3, e4, fr3, de3, _⟩ := out_dead (f := f) (rec := rec) de2
    refine ⟨ρ3, p2, ?_, fr2.trans fr3, de3, hp2⟩
    unfold rsq
    rw [e_bs]
    show ((j_X11_readCommutator_82 rec (PS ρ f)).bind _).bind _ = _
    unfold j_X11_readCommutator_82
    rw [e3, e_bs, e_bs]
    exact e4
  · obtain ⟨ρ3, e4, fr3, de3, _⟩ := out_dead (f := f) (rec := rec) h
    refine ⟨ρ3, p, ?_, fr3, de3, Nat.le_refl _⟩
    unfold rsq
    rw [e_bs]
    exact e4
theorem r_square {S : AS} {ρ ρ1 : Mem} {f f1 : SF} {rec : Mem → Int32 → Option Mem} {s d p : Nat} (hR : BR (aG S) (aR S) w ρ) (h25 : ρ.1 306 25 = i32 d) (h21 : ρ.1 306 21 = i32 p) (hd : d < 8) (hp : p < w.length) (hx : sn w p = 91) (e2 : rec (PS (opn ρ d p) f) (i32 s) = some (PS ρ1 f1)) : o_X11_readFactor rec (PS ρ f) (i32 s) = rsq rec ((loopO (fun (z4 : (Mem × Int32)) => l_X11_readCommutator_2 rec (i32 s) z4.1 z4.2) (PS ρ1 f1, i32 0)).bind (Sum.elim (fun (z1 : Mem) => j_X11_readCommutator_82 rec z1) some)) := by
  rw [r_factorB hR.2.2.1 h21 (by omega) hx (Or.inr rfl), r_open h25 h21 hd, e2, e_bs, if_neg (by decide)]
  rfl
theorem d_square {S : AS} {ρ : Mem} {f : SF} {recR : Mem → Int32 → Option Mem} {s p q d : Nat} (hG : GOK (aG S)) (jo : JWo S w recR (d + 1)) (jw : JWw recR) (hR : BR (aG S) (aR S) w ρ) (hd : d < 8) (hs : s ≤ 11 + 2 * d) (hL : DE w ρ q d p) (hp : p < w.length) (hx : sn w p = 91) : ∃ ρ' f' p', o_X11_readFactor recR (PS ρ f) (i32 s) = some (PS ρ' f') ∧ FRr ρ ρ' ∧ (∀ t, t < s → f' t = f t) ∧ DE w ρ' q d p' ∧ p ≤ p' ∧ (ρ'.1 306 20 = -1 → p < p' ∧ SmV (aG S) (f' s)) := by
  have hwl := hR.2.2.1.1
  obtain ⟨ρ1, f1, p1, e2, fr, kf, de1, hp1, s1⟩ := jo (opn ρ d p) f s q (p + 1) (by omega) (hR.frr opn_fr) (opn_de hL hp)
  have fr' : FRr ρ ρ1 := opn_fr.trans fr
  obtain ⟨rr, ρ2, f2, p2, b1, b2, b3, b4, b5, b6, b7⟩ := d_commas hG jo jw hd hs hwl (w.length - p1 + 1) p1 0 ρ1 f1 (by omega) (by omega) (hR.frr fr') de1 s1
  obtain ⟨ρ3, p3, e3, fr3, de3, hp3⟩ := r_sq_dead (rec := recR) ((hR.frr fr').frr b3) b2 b5
  refine ⟨ρ3, f2, p3, ?_, fr'.trans (b3.trans fr3), fun t ht => (b4 t ht).trans (kf t ht), de3, by omega, fun _ => ⟨by omega, b7⟩⟩
  rw [r_square hR hL.2.2.2.2.1 hL.2.2.1 hd hp hx e2, b1]
  exact e3
theorem j_square {S : AS} {ρ : Mem} {f : SF} {recC : Mem → Int32 → Option (Bool × Mem)} {recR : Mem → Int32 → Option Mem} {s p b bc d : Nat} (hG : GOK (aG S)) (hJ : Jac (aG S)) (jl : JWl S w recC recR (d + 1)) (jo : JWo S w recR (d + 1)) (jw : JWw recR) (hC : BC (aG S) (aR S) w σ) (hR : BR (aG S) (aR S) w ρ) (hd : d < 8) (hs : s ≤ 11 + 2 * d) (h9 : σ.1 144 9 = i32 p) (h10 : BH σ bc) (hL : LV ρ d p b) (hp : p < w.length) (hx : sn w p = 91) : ∃ r σ' ρ' f', o_X5_readFactor recC σ (i32 d) = some (r, σ') ∧ o_X11_readFactor recR (PS ρ f) (i32 s) = some (PS ρ' f') ∧ FRx (Pf d) σ σ' ∧ FRr ρ ρ' ∧ (∀ t, t < s → f' t = f t) ∧ FOut S w d s p r σ' ρ' f' := by
  have hw := hC.2.1.1
  obtain ⟨rW, _, _, lW, _, _⟩ := rows_d (d := d + 1) (by omega)
  obtain ⟨_, rF, rCm, _, _, lC⟩ := rows_d (d := d) (by omega)
  have g9 : (wI σ 144 9 (i32 (p + 1))).1 144 9 = i32 (p + 1) := by rw [wI_1, if_pos ⟨rfl, rfl⟩]
  have g10 : BH (wI σ 144 9 (i32 (p + 1))) bc := h10.at
  have f0 : FRx (Pf d) σ (wI σ 144 9 (i32 (p + 1))) := FRx.fld (by omega)
  obtain ⟨r, σ1, ρ1, f1, e1, e2, fx, fr, kf, hout⟩ := jl (wI σ 144 9 (i32 (p + 1))) (opn ρ d p) f s (p + 1) bc (p + 1) (by omega) (hC.frx f0 (fun x hx => Pf_72 hx)) (hR.frr opn_fr) (by omega) g9 g10 (opn_lv hL) (Nat.le_refl _)
  have fx' : FRx (Pf d) σ σ1 := f0.trans (fx.mono (fun x hx => Pw_Pf hx))
  have fr' : FRr ρ ρ1 := opn_fr.trans fr
  have hR1 := hR.frr fr'
  have er := r_square hR hL.2.2.2.1 hL.1 hd hp hx e2
  have ec : o_X5_readFactor recC σ (i32 d) = if r = true then (f_X0_copy σ1 (147 + d) (166 + d)).bind (fun (σ5 : Mem) => (f_X5_signHere σ5).bind (fun (v6 : Int32) => if v6 = 44 then (((loopO (fun (z21 : (Mem × Int32)) => l_X5_readSquare_52 recC (i32 d) (166 + d) z21.1 z21.2) (σ5, 0) : Option (Mem ⊕ (Mem ⊕ (Bool × Mem)))).bind (Sum.elim (fun (z16 : Mem) => j_X5_readSquare_117 recC z16) some) : Option (Mem ⊕ (Bool × Mem))).bind (Sum.elim (fun (z7 : Mem) => j_X5_readSquare_133 recC (i32 d) (166 + d) z7) some)) else (gF σ5 144 9 (fun (v30 : Int32) => bq (f_X5_fail σ5 1 v30) (fun (b31 : Bool) (σ32 : Mem) => some (b31, σ32)))))) else some (false, σ1) := by
    rw [c_factorB hC.2.1 h9 (by omega) hx (Or.inr rfl) (by omega), if_pos hd, if_neg (by decide)]
    unfold o_X5_readSquare
    rw [e_gR ln_145s.2.2 (by omega) (by omega), rCm, show i32 d + 1 = i32 (d + 1) from by rw [i32_1, i32_add], e1, e_bq, e_gR ln_145s.1 (by omega) (by omega), rW, show 146 + (d + 1) = 147 + d by omega]
  rcases hout with ⟨q, b1, b1', v, rfl, k9, k10, hL1, hb1, hpq, hq, h32, hA, sv, hf1, hbv⟩ | ⟨k, t, rfl, hW⟩ | ⟨t, rfl, hO, so⟩
  · have hC1 := hC.frx fx' (fun x hx => Pf_72 hx)
    have lW' : ln (147 + d) = 6 := by rw [show 147 + d = 146 + (d + 1) by omega]; exact lW
    have hA' : H6 σ1 (147 + d) v := by rw [show 147 + d = 146 + (d + 1) by omega]; exact hA
    obtain ⟨σ2, e5, o2, c2⟩ := c_copy (σ := σ1) (a := 147 + d) (b := 166 + d) (A := v) lW' lC hA'
    have fx2 : FRx (Pf d) σ1 σ2 := o2.frx (fun y hy => by unfold Pf; omega)
    have hC2 := hC1.frx fx2 (fun x hx => Pf_72 hx)
    have m9 : σ2.1 144 9 = i32 q := by rw [o2.1]; exact k9
    have m10 : BH σ2 b1' := k10.of (by rw [o2.1])
    rw [if_pos rfl, e5, e_bs, c_sign hC2.2.1 hq m9, e_bs] at ec
    by_cases h44 : sn w q = 44
    · rw [if_pos h44] at ec
      obtain ⟨rc, rr, σ3, ρ3, f3, c1, c2', fx3, fr3, kf3, hco⟩ := j_commas hG hJ jl jo jw hd hs hw (w.length - q + 1) q 0 b1 b1' σ2 ρ1 f1 v (by omega) (by omega) hq hC2 hR1 m9 m10 hL1 hb1 h32 (fun _ => h44) c2 sv hf1
      have c1' : loopO (fun (z21 : (Mem × Int32)) => l_X5_readSquare_52 recC (i32 d) (166 + d) z21.1 z21.2) (σ2, 0) = some rc := c1
      rw [c1', e_bs] at ec
      rw [c2'] at er
      have FX := fx'.trans (fx2.trans fx3)
      have FR := fr'.trans fr3
      have KF : ∀ t, t < s → f3 t = f t := fun t ht => (kf3 t ht).trans (kf t ht)
      rcases hco with ⟨q2, b2, b2', c, rfl, rfl, x3, x3', x4, x5, x6, x7, x8, x9, x10⟩ | ⟨k, t, rfl, rfl, hW⟩ | ⟨t, rfl, hrr, hO, so⟩ | ⟨t, p', rfl, hrr, x3, x4, x5⟩
      · have hC3 := hC2.frx fx3 (fun x hx => Pf_72 hx)
        have hR3 := hR1.frr fr3
        obtain ⟨r2, σ4, ρ4, f4, e6, e7, fx4, fr4, kf4, ho⟩ := j_close (rec := recR) (p := p) (s := s) (c := 93) (b := b2) hd hC3 hR3 x3 x3' x4 (by omega) x6 x7 lC x8 x9 x10 (by decide)
        refine ⟨r2, σ4, ρ4, f4, ?_, ?_, FX.trans fx4, FR.trans fr4, fun t ht => (kf4 t ht).trans (KF t ht), ho⟩
        · rw [ec]
          show (some (Sum.inl σ3) : Option (Mem ⊕ (Bool × Mem))).bind _ = _
          rw [e_bs]
          show j_X5_readSquare_133 recC (i32 d) (166 + d) σ3 = _
          unfold j_X5_readSquare_133
          rw [c_sign hC3.2.1 x6 x3, e_bs, ← e6]
          by_cases h93 : sn w q2 = 93
          · rw [if_pos h93, if_pos h93, e_gR ln_145s.2.1 (by omega) (by omega), rF]
          · rw [if_neg h93, if_neg h93]
        · rw [er, ← e7]
          unfold rsq
          rw [e_bs]
          show ((j_X11_readCommutator_82 recR (PS ρ3 f3)).bind _).bind _ = _
          unfold j_X11_readCommutator_82
          cases f_X11_must (PS ρ3 f3) 93 <;> rfl
      · obtain ⟨ρ4, e6, fr4, wr4⟩ := out_wrong (f := f3) (rec := recR) hW.2.2.2 rfl
        refine ⟨false, σ3, ρ4, f3, by rw [ec]; rfl, ?_, FX, FR.trans fr4, KF, Or.inr (Or.inl ⟨k, t, rfl, hW.1, hW.2.1, hW.2.2.1, wr4⟩)⟩
        rw [er]
        unfold rsq
        rw [e_bs]
        exact e6
      · obtain ⟨o1, o2, p1, de1⟩ := hO
        obtain ⟨ρ4, p4, e6, fr4, de4, _⟩ := r_sq_dead (rec := recR) (hR1.frr fr3) hrr de1
        exact ⟨false, σ3, ρ4, f3, by rw [ec]; rfl, by rw [er]; exact e6, FX, FR.trans fr4, KF, Or.inr (Or.inr ⟨t, rfl, ⟨o1, o2, p4, de4⟩, fun _ => so⟩)⟩
      · obtain ⟨ρ4, p4, e6, fr4, de4, _⟩ := r_sq_dead (rec := recR) (hR1.frr fr3) hrr x4
        refine ⟨false, wI (wI σ3 144 0 5) 144 1 (i32 t), ρ4, f3, ?_, by rw [er]; exact e6, FX.trans ((FRx.fld (by omega)).trans (FRx.fld (by omega))), FR.trans fr4, KF, Or.inr (Or.inr ⟨t, rfl, ⟨fail_at.1, fail_at.2, p4, de4⟩, fun _ => x5⟩)⟩
        rw [ec]
        show (j_X5_readSquare_117 recC σ3 : Option (Mem ⊕ (Bool × Mem))).bind _ = _
        unfold j_X5_readSquare_117
        rw [e_gF, x3, c_fail, e_bq, e_bs]
        rfl
    · rw [if_neg h44, e_gF, m9, c_fail, e_bq] at ec
      have ew : f_X11_isWrong (PS ρ1 f1) = some false := r_isWrong_no hL1.2.1
      obtain ⟨ρ2, e6, fr2, wr2, w21⟩ := r_errs_live (f := f1) (k := 1) (t := q) hL1 (by omega)
      have e6' : f_X11_errs (PS ρ1 f1) 1 (i32 q) = some (PS ρ2 f1) := e6
      have em := r_must_no (f := f1) hR1.2.2.1 hL1.2.1 hL1.1 (Sk_same hq h32) h44
      rw [wI_id hL1.1, e6'] at em
      have w21' : ρ2.1 306 21 = i32 q := by rw [w21]; exact hL1.1
      have e22 := r_j22 (S := S) (recR := recR) (m := 0) (s := s) (v8 := q) (by omega) em w21'
      have e4 := jw (wI ρ2 306 23 (i32 q)) f1 (s + 1) q (by omega) (by omega) (by rw [wI_1, if_neg (by omega)]; exact wr2.2.2.1)
      have ew2 : f_X11_isWrong (PS (wI ρ2 306 23 (i32 q)) (uS f1 (s + 1) (fun _ => 0))) = some true := r_isWrong_yes (t := q) (by omega) (by show (wI ρ2 306 23 (i32 q)).1 306 20 = i32 q; rw [wI_1, if_neg (by omega)]; exact wr2.2.2.1)
      have hend : l_X11_readCommutator_2 recR (i32 s) (PS ρ1 f1) (i32 0) = some (Sum.inr (Sum.inr (PS (wI ρ2 306 23 (i32 q)) (uS f1 (s + 1) (fun _ => 0))))) := by
        unfold l_X11_readCommutator_2
        rw [ew, e_bs, if_neg (by decide), if_pos (show i32 0 = 0 from rfl), e_bs]
        show j_X11_readCommutator_22 recR (i32 s) (i32 0) (PS ρ1 f1) = _
        rw [e22, e4, e_bs, ew2, e_bs, if_pos rfl]
      have wr3 : WR (wI ρ2 306 23 (i32 q)) 1 q (d + 1) := wr2.bh
      obtain ⟨ρ4, e7, fr4, wr4⟩ := out_wrong (f := uS f1 (s + 1) (fun _ => 0)) (rec := recR) wr3 rfl
      refine ⟨false, wI (wI σ2 144 0 1) 144 1 (i32 q), ρ4, uS f1 (s + 1) (fun _ => 0), ec, ?_, fx'.trans (fx2.trans ((FRx.fld (by omega)).trans (FRx.fld (by omega)))), fr'.trans (fr2.trans ((FRr.fld (by omega)).trans fr4)), fun t ht => by rw [uS_ne (by omega)]; exact kf t ht, Or.inr (Or.inl ⟨1, q, rfl, by omega, fail_at.1, fail_at.2, wr4⟩)⟩
      have hle : loopO (fun (z4 : (Mem × Int32)) => l_X11_readCommutator_2 recR (i32 s) z4.1 z4.2) (PS ρ1 f1, i32 0) = some (Sum.inr (PS (wI ρ2 306 23 (i32 q)) (uS f1 (s + 1) (fun _ => 0)))) := lp_end (body := fun (z4 : (Mem × Int32)) => l_X11_readCommutator_2 recR (i32 s) z4.1 z4.2) hend
      rw [er, hle]
      unfold rsq
      rw [e_bs]
      exact e7
  · have ew : f_X11_isWrong (PS ρ1 f1) = some true := r_isWrong_yes (t := t) (by have := hW.2.2.2.1; omega) hW.2.2.2.2.2.1
    have hend : l_X11_readCommutator_2 recR (i32 s) (PS ρ1 f1) (i32 0) = some (Sum.inr (Sum.inl (PS ρ1 f1))) := by
      unfold l_X11_readCommutator_2
      rw [ew, e_bs, if_pos rfl]
    have hle : loopO (fun (z4 : (Mem × Int32)) => l_X11_readCommutator_2 recR (i32 s) z4.1 z4.2) (PS ρ1 f1, i32 0) = some (Sum.inl (PS ρ1 f1)) := lp_end (body := fun (z4 : (Mem × Int32)) => l_X11_readCommutator_2 recR (i32 s) z4.1 z4.2) hend
    obtain ⟨ρ4, e7, fr4, wr4⟩ := out_wrong (f := f1) (rec := recR) hW.2.2.2 rfl
    refine ⟨false, σ1, ρ4, f1, by rw [ec, if_neg (by decide)], ?_, fx', fr'.trans fr4, kf, Or.inr (Or.inl ⟨k, t, rfl, hW.1, hW.2.1, hW.2.2.1, wr4⟩)⟩
    rw [er, hle]
    unfold rsq
    rw [e_bs]
    show ((j_X11_readCommutator_82 recR (PS ρ1 f1)).bind _).bind _ = _
    unfold j_X11_readCommutator_82
    rw [r_must_wrong hW.2.2.2, e_bs, e_bs]
    exact e7
  · obtain ⟨o1, o2, p1, de1⟩ := hO
    obtain ⟨rr, ρ2, f2, p2, b1, b2, b3, b4, b5, b6, b7⟩ := d_commas hG jo jw hd hs hw (w.length - p1 + 1) p1 0 ρ1 f1 (by omega) (by omega) hR1 de1 so
    obtain ⟨ρ3, p3, e3, fr3, de3, _⟩ := r_sq_dead (rec := recR) (hR1.frr b3) b2 b5
    refine ⟨false, σ1, ρ3, f2, by rw [ec, if_neg (by decide)], ?_, fx', fr'.trans (b3.trans fr3), fun t ht => (b4 t ht).trans (kf t ht), Or.inr (Or.inr ⟨t, rfl, ⟨o1, o2, p3, de3⟩, fun _ => b7⟩)⟩
    rw [er, b1]
    exact e3
/-! any factor -/
theorem isFa_cases {x : Int32} (h : isFa x = true) : (∃ y, y ≤ 5 ∧ x = i32 (97 + y)) ∨ x = 82 ∨ x = 40 ∨ x = 91 := by
  have h1 := of_decide_eq_true h
  rcases h1 with h1 | h1 | h1 | h1
  · refine Or.inl ⟨x.toInt.toNat - 97, by omega, ?_⟩
    rw [show 97 + (x.toInt.toNat - 97) = x.toInt.toNat by omega]
    exact i32_of (by omega)
  · exact Or.inr (Or.inl h1)
  · exact Or.inr (Or.inr (Or.inl h1))
  · exact Or.inr (Or.inr (Or.inr h1))
theorem r_deep {ρ : Mem} {f : SF} {rec : Mem → Int32 → Option Mem} {s p : Nat} {c : Int32} (hT : RTx ρ w) (h25 : ρ.1 306 25 = i32 8) (h21 : ρ.1 306 21 = i32 p) (hp : p ≤ w.length) (hx : sn w p = c) (hc : c = 40 ∨ c = 91) : o_X11_readFactor rec (PS ρ f) (i32 s) = (f_X11_errs (PS ρ f) 4 (i32 p)).bind (fun (σ5 : Mem) => j_X11_readFactor_134 rec σ5) := by
  rw [r_factorB hT h21 hp hx hc]
  unfold o_X11_readOpen
  have g25 : (PS ρ f).1 306 25 = i32 8 := h25
  have g21 : (PS ρ f).1 306 21 = i32 p := h21
  rw [e_gF, g25, if_pos (show i32 8 = 8 from rfl), e_gF, g21]
  cases f_X11_errs (PS ρ f) 4 (i32 p) <;> rfl
theorem j_factor {S : AS} {ρ : Mem} {f : SF} {recC : Mem → Int32 → Option (Bool × Mem)} {recR : Mem → Int32 → Option Mem} {s p b bc d : Nat} (ok : OKS S) (hJ : Jac (aG S)) (hbt : ∀ x : Nat, x ∈ w → x < 256) (jl : d < 8 → JWl S w recC recR (d + 1)) (jo : d < 8 → JWo S w recR (d + 1)) (jw : d < 8 → JWw recR) (hC : BC (aG S) (aR S) w σ) (hR : BR (aG S) (aR S) w ρ) (hd : d ≤ 8) (hs : s ≤ 11 + 2 * d) (h9 : σ.1 144 9 = i32 p) (h10 : BH σ bc) (hL : LV ρ d p b) (hfa : isFa (sn w p) = true) : ∃ r σ' ρ' f', o_X5_readFactor recC σ (i32 d) = some (r, σ') ∧ o_X11_readFactor recR (PS ρ f) (i32 s) = some (PS ρ' f') ∧ FRx (Pf d) σ σ' ∧ FRr ρ ρ' ∧ (∀ t, t < s → f' t = f t) ∧ FOut S w d s p r σ' ρ' f' := by
  have hG : GOK (aG S) := ok.1.1
  have hp := isFa_lt hfa
  have hw := hC.2.1.1
  have deep : ∀ c : Int32, c = 40 ∨ c = 91 → sn w p = c → ¬ d < 8 → ∃ r σ' ρ' f', o_X5_readFactor recC σ (i32 d) = some (r, σ') ∧ o_X11_readFactor recR (PS ρ f) (i32 s) = some (PS ρ' f') ∧ FRx (Pf d) σ σ' ∧ FRr ρ ρ' ∧ (∀ t, t < s → f' t = f t) ∧ FOut S w d s p r σ' ρ' f' := by
    intro c hc hx h8
    have hd8 : d = 8 := by omega
    subst hd8
    obtain ⟨ρ', e, fr, wr, w21⟩ := r_errs_live (f := f) (k := 4) (t := p) hL (by omega)
    have e' : f_X11_errs (PS ρ f) 4 (i32 p) = some (PS ρ' f) := e
    refine ⟨false, wI (wI σ 144 0 4) 144 1 (i32 p), wI ρ' 306 23 (i32 p), f, ?_, ?_, (FRx.fld (by omega)).trans (FRx.fld (by omega)), fr.trans (FRr.fld (by omega)), fun _ _ => rfl, Or.inr (Or.inl ⟨4, p, rfl, by omega, fail_at.1, fail_at.2, wr.bh⟩)⟩
    · rw [c_factorB hC.2.1 h9 (by omega) hx hc (by omega), if_neg h8]
    · rw [r_deep hR.2.2.1 hL.2.2.2.1 hL.1 (by omega) hx hc, e', e_bs, r_pass (p := p) (by rw [w21]; exact hL.1)]
  rcases isFa_cases hfa with ⟨y, hy, hx⟩ | hx | hx | hx
  · exact j_letter hG hC hR hd (by omega) h9 h10 hL hp hx hy
  · exact j_register ok hC hR hbt hd (by omega) h9 h10 hL hp hx
  · by_cases h8 : d < 8
    · exact j_round (jl h8) hC hR h8 hs h9 h10 hL hp hx
    · exact deep 40 (Or.inl rfl) hx h8
  · by_cases h8 : d < 8
    · exact j_square hG hJ (jl h8) (jo h8) (jw h8) hC hR h8 hs h9 h10 hL hp hx
    · exact deep 91 (Or.inr rfl) hx h8
theorem d_factor {S : AS} {ρ : Mem} {f : SF} {recR : Mem → Int32 → Option Mem} {s p q d : Nat} (ok : OKS S) (hbt : ∀ x : Nat, x ∈ w → x < 256) (jo : d < 8 → JWo S w recR (d + 1)) (jw : d < 8 → JWw recR) (hR : BR (aG S) (aR S) w ρ) (hd : d ≤ 8) (hs : s ≤ 11 + 2 * d) (hL : DE w ρ q d p) (hfa : isFa (sn w p) = true) : ∃ ρ' f' p', o_X11_readFactor recR (PS ρ f) (i32 s) = some (PS ρ' f') ∧ FRr ρ ρ' ∧ (∀ t, t < s → f' t = f t) ∧ DE w ρ' q d p' ∧ p ≤ p' ∧ (ρ'.1 306 20 = -1 → p < p' ∧ SmV (aG S) (f' s)) := by
  have hG : GOK (aG S) := ok.1.1
  have hp := isFa_lt hfa
  have hw := hR.2.2.1.1
  have hqp := hL.1
  have deep : ∀ c : Int32, c = 40 ∨ c = 91 → sn w p = c → ¬ d < 8 → ∃ ρ' f' p', o_X11_readFactor recR (PS ρ f) (i32 s) = some (PS ρ' f') ∧ FRr ρ ρ' ∧ (∀ t, t < s → f' t = f t) ∧ DE w ρ' q d p' ∧ p ≤ p' ∧ (ρ'.1 306 20 = -1 → p < p' ∧ SmV (aG S) (f' s)) := by
    intro c hc hx h8
    have hd8 : d = 8 := by omega
    subst hd8
    obtain ⟨ρ', e, fr, de, nw⟩ := r_errs_dead (f := f) (k := 4) (t := p) hL (by omega) hqp
    have e' : f_X11_errs (PS ρ f) 4 (i32 p) = some (PS ρ' f) := e
    refine ⟨wI ρ' 306 23 (i32 p), f, p, ?_, fr.trans (FRr.fld (by omega)), fun _ _ => rfl, de.bh, Nat.le_refl _, fun z => absurd (by rw [wI_1, if_neg (by omega)] at z; exact z) nw⟩
    rw [r_deep hR.2.2.1 hL.2.2.2.2.1 hL.2.2.1 (by omega) hx hc, e', e_bs, r_pass (p := p) de.2.2.1]
  rcases isFa_cases hfa with ⟨y, hy, hx⟩ | hx | hx | hx
  · exact d_letter hG hR (by omega) hL hp hx hy
  · exact d_register ok hR hbt (by omega) hL hp hx
  · by_cases h8 : d < 8
    · exact d_round (jo h8) hR h8 hs hL hp hx
    · exact deep 40 (Or.inl rfl) hx h8
  · by_cases h8 : d < 8
    · exact d_square hG (jo h8) (jw h8) hR h8 hs hL hp hx
    · exact deep 91 (Or.inr rfl) hx h8
end WRD
