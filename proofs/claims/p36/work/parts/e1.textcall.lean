/-! text: the call, both sides -/
section TX2
variable {σ : Mem}
theorem sn_end {w : List Nat} (hbt : ∀ x : Nat, x ∈ w → x < 256) {q : Nat} (hq : q ≤ w.length) : sn w q = -1 ↔ q = w.length := by
  constructor
  · intro h
    rcases sn_cases hbt q with ⟨x, hx, h256, hlt, hs⟩ | ⟨hle, _⟩
    · rw [h] at hs
      exact absurd hs.symm (ne_m1 (by omega))
    · omega
  · intro h
    exact sn_out (by omega)
theorem rst_23 {v : Int32} : (rst σ v).1 306 23 = i32 0 := by
  rw [rst_c, if_pos rfl]; rfl
theorem rst_25 {v : Int32} : (rst σ v).1 306 25 = i32 0 := by
  rw [rst_c, if_neg (by omega), if_pos rfl]; rfl
theorem rst_24 {v : Int32} : (rst σ v).1 306 24 = -1 := by
  rw [rst_c, if_neg (by omega), if_neg (by omega), if_pos rfl]
theorem rst_20 {v : Int32} : (rst σ v).1 306 20 = -1 := by
  rw [rst_c, if_neg (by omega), if_neg (by omega), if_neg (by omega), if_pos rfl]
theorem rst_19 {v : Int32} : (rst σ v).1 306 19 = 0 := by
  rw [rst_c, if_neg (by omega), if_neg (by omega), if_neg (by omega), if_neg (by omega), if_pos rfl]
theorem rst_18 {v : Int32} : (rst σ v).1 306 18 = i32 0 := by
  rw [rst_c, if_neg (by omega), if_neg (by omega), if_neg (by omega), if_neg (by omega), if_neg (by omega), if_pos rfl]; rfl
theorem rst_22 {v : Int32} : (rst σ v).1 306 22 = v := by
  rw [rst_c, if_neg (by omega), if_neg (by omega), if_neg (by omega), if_neg (by omega), if_neg (by omega), if_neg (by omega), if_pos rfl]
theorem rst_21 {v : Int32} : (rst σ v).1 306 21 = i32 0 := by
  rw [rst_c, if_neg (by omega), if_neg (by omega), if_neg (by omega), if_neg (by omega), if_neg (by omega), if_neg (by omega), if_neg (by omega), if_pos rfl]; rfl
/-- no text: both empty their tapes and forget -/
abbrev S0 (S : AS) (F : Int32 × Int32) : AS := (aX S, aT S, aA S, aI S, [], F)
theorem ok_13 : Ok_13 II := by
  intro c σ x hc ⟨S, ok, h, hr⟩
  have hG : GOK (aG S) := ok.1.1
  have hn : gn (aG S) ≤ 6 := hG.2.1
  have hwl : (aP S).length ≤ 200 := ok.2.2.2.2.1
  have hbt : ∀ x : Nat, x ∈ aP S → x < 256 := ok.2.2.2.2.2
  have h5 : CTape σ (aP S) := h.2.2.2.2.1
  obtain ⟨b, hb, hB⟩ := c_cons h
  have hb' : (csb σ).1 40 3 = b2i b := by rw [csb_f.1 40 (by omega) (by omega) (by omega)]; exact hb
  have ec : f_X10_text σ x = (f_X10_isRegister (csb σ) x).bind (fun (b4 : Bool) => if b4 then gZ (csb σ) 40 3 (fun (b5 : Bool) => if b5 then bq (f_X5_read (csb σ) 34 (i32 (aP S).length)) (fun (b6 : Bool) (σ7 : Mem) => if b6 then gR 145 0 (fun (p11 : Nat) => (f_X0_copy σ7 p11 176).bind (fun (σ12 : Mem) => bq (f_X10_keep σ12 x) (fun (b13 : Bool) (σ14 : Mem) => some (b13, σ14)))) else gF σ7 144 0 (fun (v8 : Int32) => if v8 = 5 then (gI σ7 16 0 (fun (v9 : Int32) => pI σ7 16 0 (v9 + 1) (fun (σ10 : Mem) => some (false, σ10)))) else (some (false, σ7)))) else some (false, csb σ)) else some (false, csb σ)) := by
    unfold f_X10_text f_X5_forget
    rw [e_gF, h5.1, e_pF, e_pF, e_pF, e_bs]
    rfl
  have h0 : ICls c (S0 S (0, -1)) (csb σ) := h.text csb_f csb_7 csb_F
  have ok0 : ∀ F, OKS (S0 S F) := fun F => nil_ok ok
  have rb : ∀ σ2, HI σ σ2 → IRef (S0 S (0, -1)) (rst σ2 (i32 (aP S).length)) ∧ LO σ2 (rst σ2 (i32 (aP S).length)) ∧ σ2.1 306 18 = i32 (aP S).length := fun σ2 hi => ⟨(hr.hi hi).text rst_f rst_18 ⟨rst_19, rst_20⟩, rst_f.lo, (hr.hi hi).2.2.2.2.1.1⟩
  by_cases hgo : isReg x = true ∧ b = true
  · obtain ⟨hx, hbt'⟩ := hgo
    have hcons := hB.mp hbt'
    have hJ := Cons.jac hG hcons
    obtain ⟨r, hr10, rfl⟩ := isReg_idx hx
    obtain ⟨jl, _, _⟩ := words_ok (S := S) (w := aP S) ok hJ hbt hwl 8 0 10 20 rfl (by omega) (by omega)
    have hC : BC (aG S) (aR S) (aP S) (cs8 (csb σ) (aP S).length) := by
      have hcp : CPoly (aG S) (csb σ) := c_ct (S := S0 S (0, -1)) h0 hcons
      refine ⟨fun k hk => (hcp k hk).of (cs8_x (by omega) (by omega)) (cs8_x (by omega) (by omega)) rfl (cs8_x (by omega) (by omega)), ⟨hwl, cs8_8, fun q y hq => ?_⟩, fun q hq k hk => c_reg h0 hq k hk, ?_⟩
      · have hlt := (List.getElem?_eq_some_iff.mp hq).1
        rw [cs8_175 hlt, csb_f.1 34 (by omega) (by omega) (by omega)]
        exact h5.2 q y hq
      · rw [cs8_x (by omega) (by omega)]
        exact h0.1.1.1
    have hBH : BH (cs8 (csb σ) (aP S).length) 0 := ⟨cs8_10, by rw [cs8_144 (by omega) (by omega) (by omega)]; exact csb_F.1, by rw [cs8_144 (by omega) (by omega) (by omega)]; exact csb_F.2⟩
    have K : ∀ σ2, HI σ σ2 → ∃ ρ f r' σ' ρ' f', f_X11_text σ2 (i32 r) = (f_X11_readWord 20 (PS ρ f) 10).bind (fun (σ14 : Mem) => rtl (i32 r) σ14) ∧ IRef (S0 S (0, -1)) (PS ρ f) ∧ LO σ2 (PS ρ f) ∧ f_X5_readWord 10 (cs8 (csb σ) (aP S).length) 0 = some (r', σ') ∧ f_X11_readWord 20 (PS ρ f) 10 = some (PS ρ' f') ∧ FRx (Pw 0) (cs8 (csb σ) (aP S).length) σ' ∧ FRr ρ ρ' ∧ WOut S (aP S) 0 10 0 r' σ' ρ' f' ∧ BR (aG S) (aR S) (aP S) ρ := by
      intro σ2 hi
      obtain ⟨I0, l0, h18⟩ := rb σ2 hi
      obtain ⟨b2, τ, e, f, hl, h9, hl2, hc2⟩ := r_isConsistent I0.1.mg hG I0.2.2.2.2.2.2.2 I0.2.2.2.2.2.2.1
      have hb2 : b2 = true := hc2.mpr hcons
      subst hb2
      have I1 := I0.fly f hl
      obtain ⟨g, hg⟩ := PS_any τ
      have k := f.2.1
      have hBR : BR (aG S) (aR S) (aP S) τ := ⟨I1.1.mg, I1.2.2.2.2.2.2.2, ⟨hwl, by rw [k 22 (by omega) (by omega) (by omega) (by omega)]; exact rst_22, fun q y hq => by rw [f.1 317 (by omega) (by omega) (by omega) (by omega) (by omega) (by omega), rst_x (by omega)]; exact (hr.hi hi).2.2.2.2.1.2 q y hq⟩, I1.1⟩
      have hL : LV τ 0 0 0 := ⟨by rw [k 21 (by omega) (by omega) (by omega) (by omega)]; exact rst_21, by rw [k 20 (by omega) (by omega) (by omega) (by omega)]; exact rst_20, by rw [k 24 (by omega) (by omega) (by omega) (by omega)]; exact rst_24, by rw [k 25 (by omega) (by omega) (by omega) (by omega)]; exact rst_25, by rw [k 23 (by omega) (by omega) (by omega) (by omega)]; exact rst_23, by rw [k 19 (by omega) (by omega) (by omega) (by omega)]; exact rst_19⟩
      obtain ⟨r', σ', ρ', f', e1, e2, fx, fr, _, out⟩ := jl (cs8 (csb σ) (aP S).length) τ g 10 0 0 0 (by omega) hC hBR (Nat.zero_le _) cs8_9 hBH hL (Nat.le_refl _)
      refine ⟨τ, g, r', σ', ρ', f', ?_, by rw [hg]; exact I1, by rw [hg]; exact l0.trans f.lo, e1, e2, fx, fr, out, hBR⟩
      rw [r_text h18, r_isReg, e_bs, hx, if_pos rfl, e, e_bq, if_pos rfl, hg]
    obtain ⟨_, _, r1, σ1, _, _, _, _, _, e1, _, fx1, _, out1, _⟩ := K σ HI.refl
    have F1 : FTt σ σ1 := csb_f.trans (cs8_f.trans (fx1.ftt (fun x hx => by unfold Pw at hx; omega)))
    have z7 : σ1.1 0 7 = i32 0 := by rw [fx1.1 0 (by omega), cs8_x (by omega) (by omega)]; exact csb_7
    have z8 : σ1.1 144 8 = i32 (aP S).length := by rw [fx1.2.1 8 (by omega) (by omega) (by omega) (by omega)]; exact cs8_8
    have KK : ∀ σ2, HI σ σ2 → ∃ ρ' f', f_X11_text σ2 (i32 r) = rtl (i32 r) (PS ρ' f') ∧ (∀ (τ : Mem) (F : Int32 × Int32), FRr ρ' τ → τ.1 306 19 = F.1 → τ.1 306 20 = F.2 → ∀ g, IRef (S0 S F) (PS τ g)) ∧ (∀ (τ : Mem) (g : SF), FRr ρ' τ → LO σ2 (PS τ g)) ∧ WOut S (aP S) 0 10 0 r1 σ1 ρ' f' ∧ RTx ρ' (aP S) := by
      intro σ2 hi
      obtain ⟨ρ, f, r', σ', ρ', f', a1, a2, a3, a4, a5, a6, a7, a8, a9⟩ := K σ2 hi
      have h2 := Option.some.inj (a4.symm.trans e1)
      have q1 : r' = r1 := congrArg Prod.fst h2
      have q2 : σ' = σ1 := congrArg Prod.snd h2
      rw [q1, q2] at a8
      refine ⟨ρ', f', by rw [a1, a5, e_bs], fun τ F fr h1 h2 g => ?_, fun τ g fr => a3.trans (FRt.lo ((a7.trans fr).frt)), a8, (a9.frr a7).2.2.1⟩
      have h18 : (PS ρ f).1 306 18 = i32 0 := a2.2.2.2.2.1.1
      exact IRef.text (S := S0 S (0, -1)) a2 ((a7.trans fr).frt) (((a7.trans fr).2.1 18 (by omega) (by omega) (by omega) (by omega) (by omega) (by omega)).trans h18) ⟨h1, h2⟩
    have eg : ∀ (f : Nat → Option (Bool × Mem)), gR 145 0 f = f (146 + 0) := fun f => by
      rw [i32_0, e_gR ln_145 (by omega) (by omega), (rows_d (d := 0) (by omega)).1]
    rw [ec, c_isReg, e_bs, hx, if_pos rfl, e_gZ hb', hbt', if_pos rfl]
    rcases out1 with ⟨q, b1, b1', v, hrt, k9, k10, hL1, hb1, hpq, hq, h32, hA, sv, _, _⟩ | ⟨k, t, hrf, hW⟩ | ⟨t, hrf, hO, _⟩
    · by_cases hend : q = (aP S).length
      · have eR : f_X5_read (csb σ) 34 (i32 (aP S).length) = some (true, σ1) := by
          rw [c_readT hwl, e1, e_bq, hrt, if_pos rfl, e_gF, k9, e_gF, z8, if_pos (i_le (by omega) (by omega))]
          rfl
        obtain ⟨σ2, e5, o2, c2⟩ := c_copy (σ := σ1) (a := 146 + 0) (b := 176) (A := v) (rows_d (d := 0) (by omega)).2.2.2.1 ln_176 hA
        have F2 : FTt σ σ2 := F1.trans ((o2.frx (Q := fun x => x = 176) (fun y hy => hy)).ftt (fun x hx => by omega))
        have h2 : ICls c (S0 S (0, -1)) σ2 := h.text F2 (by rw [o2.1]; exact z7) ⟨by rw [o2.1]; exact k10.2.1, by rw [o2.1]; exact k10.2.2⟩
        have hel : isEl (aG S) v = true := isEl_small sv.1
        obtain ⟨σ3, e6, i3, hi3⟩ := c_keep h2 (ok0 _) c2 sv.z6 hr10 hel
        obtain ⟨ρ', f', a1, a2, a3, a4, a5⟩ := KK σ3 (F2.hi.trans hi3)
        rcases a4 with ⟨q2, b2, b2', v2, _, m9, _, mL, _, _, mq, m32, mA, msv, mf, _⟩ | ⟨k, t, hrf, _⟩ | ⟨t, hrf, _, _⟩
        · have hqq : q2 = q := by
            have := m9.symm.trans k9
            rw [i32_eq (by omega) (by omega)] at this
            exact this
          have hLI := a2 ρ' (0, -1) FRr.refl mL.2.2.2.2.2 mL.2.1 f'
          obtain ⟨τ, e7, r7, l7⟩ := r_gives (f := f') hLI (ok0 _) hr10 (s := 10) (by omega)
          have e7' : f_X11_gives (PS ρ' f') (i32 r) 10 = some (isEl (aG S) (f' 10), τ) := e7
          have hel2 : isEl (aG S) (f' 10) = true := by rw [mf]; exact isEl_small msv.1
          have hvv : EqG (aG S) v (f' 10) := fun i hi => by
            have e := (hA i (by omega)).symm.trans (mA i (by omega))
            have b1 := sv.1 i
            have b2 := msv.1 i
            have e2 := congrArg Int64.toInt e
            rw [oi_toInt (by omega) (by omega), oi_toInt (by omega) (by omega)] at e2
            rw [mf]
            exact e2
          refine ⟨true, σ3, τ, ?_, ?_, fin_kept (S := S0 S (0, -1)) (ok0 _) hvv (by rw [if_pos (show isEl (aG (S0 S (0, -1))) v = true from hel)]; exact i3) r7 ((a3 ρ' f' FRr.refl).trans l7)⟩
          · rw [eR, e_bq, if_pos rfl, eg, e5, e_bs, e6, e_bq]
          · rw [a1, rtl_end a5 mL mq m32 ((sn_end hbt mq).mpr (by omega)), e7', e_bq, hel2, if_pos rfl, e_bs]
            rfl
        · rw [hrt] at hrf; cases hrf
        · rw [hrt] at hrf; cases hrf
      · have eR : f_X5_read (csb σ) 34 (i32 (aP S).length) = some (false, wI (wI σ1 144 0 1) 144 1 (i32 q)) := by
          rw [c_readT hwl, e1, e_bq, hrt, if_pos rfl, e_gF, k9, e_gF, z8, if_neg (i_nle (by omega) (by omega)), e_gF, k9, c_fail, e_bq, if_neg (by decide), e_bs]
          rfl
        have F7 : FTt σ (wI (wI σ1 144 0 1) 144 1 (i32 q)) := F1.trans (FRx.ftt (P := fun _ => False) ((FRx.fld (by omega)).trans (FRx.fld (by omega))) (fun x hx => hx.elim))
        obtain ⟨ρ', f', a1, a2, a3, a4, a5⟩ := KK _ F7.hi
        rcases a4 with ⟨q2, b2, b2', v2, _, m9, _, mL, _, _, mq, m32, mA, msv, mf, _⟩ | ⟨k, t, hrf, _⟩ | ⟨t, hrf, _, _⟩
        · have hqq : q2 = q := by
            have := m9.symm.trans k9
            rw [i32_eq (by omega) (by omega)] at this
            exact this
          subst hqq
          obtain ⟨ρ2, e8, fr8, wr8⟩ := rtl_more (f := f') (x := i32 r) a5 mL mq m32 (fun z => hend ((sn_end hbt mq).mp z))
          refine ⟨false, _, PS ρ2 f', ?_, by rw [a1]; exact e8, S0 S (1, i32 q2), ok0 _, ((h.text F7 (by rw [wI_1, if_neg (by omega), wI_1, if_neg (by omega)]; exact z7) ⟨fail_at.1, fail_at.2⟩).up).lo (a3 ρ2 f' fr8), a2 ρ2 (1, i32 q2) fr8 wr8.2.1 wr8.2.2.1 f'⟩
          rw [eR, e_bq, if_neg (by decide), e_gF, fail_at.1, if_neg (by decide)]
        · rw [hrt] at hrf; cases hrf
        · rw [hrt] at hrf; cases hrf
    · have eR : f_X5_read (csb σ) 34 (i32 (aP S).length) = some (false, σ1) := by
        rw [c_readT hwl, e1, e_bq, hrf, if_neg (by decide)]
      have hk4 := hW.1
      have hk5 : ¬ i32 k = 5 := i_ne (b := 5) (by omega) (by omega) (by omega)
      obtain ⟨ρ', f', a1, a2, a3, a4, a5⟩ := KK σ1 F1.hi
      rcases a4 with ⟨q2, b2, b2', v2, hrt, _⟩ | ⟨k2, t2, _, hW2⟩ | ⟨t2, _, hO2, _⟩
      · rw [hrf] at hrt; cases hrt
      · refine ⟨false, σ1, PS ρ' f', ?_, by rw [a1]; exact rtl_wrong hW2.2.2.2, S0 S (i32 k, i32 t), ok0 _, ((h.text F1 z7 ⟨hW.2.1, hW.2.2.1⟩).up).lo (a3 ρ' f' FRr.refl), a2 ρ' (i32 k, i32 t) FRr.refl (hW2.2.2.2.2.1.trans (hW2.2.1.symm.trans hW.2.1)) (hW2.2.2.2.2.2.1.trans (hW2.2.2.1.symm.trans hW.2.2.1)) f'⟩
        rw [eR, e_bq, if_neg (by decide), e_gF, hW.2.1, if_neg hk5]
      · exact absurd (hW.2.1.symm.trans hO2.1) hk5
    · have eR : f_X5_read (csb σ) 34 (i32 (aP S).length) = some (false, σ1) := by
        rw [c_readT hwl, e1, e_bq, hrf, if_neg (by decide)]
      have h5' : ICls c (S0 S (5, i32 t)) σ1 := h.text F1 z7 ⟨hO.1, hO.2.1⟩
      have h16 : σ1.1 16 0 = (aT S).1 := h5'.2.1.1
      have eT : (gI σ1 16 0 (fun (v9 : Int32) => pI σ1 16 0 (v9 + 1) (fun (σ10 : Mem) => some (false, σ10))) : Option (Bool × Mem)) = some (false, wI σ1 16 0 ((aT S).1 + 1)) := by
        rw [i32_0, e_gI ln_16 (by omega) (by omega), e_pI ln_16 (by omega) (by omega), h16]
      have hi7 : HI σ (wI σ1 16 0 ((aT S).1 + 1)) := F1.hi.trans (fun x hx => ⟨by funext y; rw [wI_1, if_neg (by omega)], rfl⟩)
      obtain ⟨ρ', f', a1, a2, a3, a4, a5⟩ := KK _ hi7
      rcases a4 with ⟨q2, b2, b2', v2, hrt, _⟩ | ⟨k2, t2, _, hW2⟩ | ⟨t2, _, hO2, _⟩
      · rw [hrf] at hrt; cases hrt
      · have hk4 := hW2.1
        exact absurd (hW2.2.1.symm.trans hO.1) (i_ne (b := 5) (by omega) (by omega) (by omega))
      · obtain ⟨_, o2, p, de⟩ := hO2
        obtain ⟨ρ2, e8, fr8, g19, g20⟩ := rtl_dead (f := f') (x := i32 r) a5 de
        have I2 := a2 ρ2 (5, i32 t) fr8 g19 (g20.trans (o2.symm.trans hO.2.1)) f'
        have g4 : ρ'.1 306 4 = (aT S).1 := by
          rw [← fr8.2.1 4 (by omega) (by omega) (by omega) (by omega) (by omega) (by omega)]
          exact I2.2.1.1
        rw [g4] at e8
        refine ⟨false, _, _, ?_, by rw [a1]; exact e8, ovS (S0 S (5, i32 t)), ovS_ok (ok0 _), (h5'.over.up).lo ((a3 ρ2 f' fr8).trans (LO.row (by omega))), I2.over⟩
        rw [eR, e_bq, if_neg (by decide), e_gF, hO.1, if_pos rfl]
        exact eT
  · -- refused
    have hrs : ∃ τ, f_X11_text (csb σ) x = some (false, τ) ∧ IRef (S0 S (0, -1)) τ ∧ LO (csb σ) τ := by
      obtain ⟨I0, l0, h18⟩ := rb (csb σ) csb_f.hi
      rw [r_text h18, r_isReg, e_bs]
      cases hx : isReg x with
      | false =>
        rw [if_neg (by decide)]
        exact ⟨_, rfl, I0, l0⟩
      | true =>
        obtain ⟨b2, τ, e, I1, l1, _, _, hc2⟩ := r_cons I0 (ok0 _)
        have hb2 : b2 = false := by
          cases b2 with
          | false => rfl
          | true => exact absurd ⟨hx, hB.mpr (hc2.mp rfl)⟩ hgo
        subst hb2
        rw [if_pos rfl, e, e_bq, if_neg (by decide)]
        exact ⟨_, rfl, I1, l0.trans l1⟩
    obtain ⟨τ, e, I, l⟩ := hrs
    refine ⟨false, csb σ, τ, ?_, e, S0 S (0, -1), ok0 _, (h0.lo l).up, I⟩
    rw [ec, c_isReg, e_bs]
    cases hx : isReg x with
    | false => rw [if_neg (by decide)]
    | true =>
      have hbf : b = false := by
        cases b with
        | false => rfl
        | true => exact absurd ⟨hx, rfl⟩ hgo
      rw [if_pos rfl, e_gZ hb', hbf, if_neg (by decide)]
end TX2
