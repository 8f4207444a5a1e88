/-! register: the call -/
section RGC
variable {σ : Mem} {G : GD}
noncomputable def rbr (x0 x1 : Int32) (σ6 : Mem) : Option (Int32 × Mem) := if x1 = 0 then ((f_X11_layer σ6 0).bind (fun (v20 : Int32) => some (v20, σ6))) else (if x1 = 1 then (bq (f_X11_isCentral σ6 0 1) (fun (b18 : Bool) (σ19 : Mem) => if b18 then some (1, σ19) else some (0, σ19))) else (if x1 = 2 then ((f_X11_isOne σ6 0).bind (fun (b17 : Bool) => if b17 then some (1, σ6) else some (0, σ6))) else (if x1 = 3 then (bq (f_X11_shortOf σ6 0) (fun (v15 : Int32) (σ16 : Mem) => some (v15, σ16))) else (if x1 = 6 then (bq (f_X11_isMade σ6 0 1) (fun (b13 : Bool) (σ14 : Mem) => if b13 then some (1, σ14) else some (0, σ14))) else (if x1 = 7 then (bq (f_X11_leastMade σ6 0) (fun (v11 : Int32) (σ12 : Mem) => some (v11, σ12))) else (if x1 = 4 then (bq (f_X11_greatestRoot σ6 0) (fun (v9 : Int32) (σ10 : Mem) => some (v9, σ10))) else (bq (f_X11_sameAs σ6 x0) (fun (v7 : Int32) (σ8 : Mem) => some (v7, σ8)))))))))
theorem ok_23 : Ok_23 II := by
  intro c σ x w hc ⟨S, ok, h, hr⟩
  have hG : GOK (aG S) := ok.1.1
  have hn : gn (aG S) ≤ 6 := hG.2.1
  obtain ⟨b, hb, hB⟩ := c_cons h
  have ew := fun τ : Mem => r_in (σ := τ) (x := w) (l := 0) (u := 7) ⟨by omega, by omega⟩ ⟨by omega, by omega⟩
  have f0 : LO σ (wI σ 306 0 0) := LO.row (by omega)
  unfold f_X10_register
  rw [c_isReg, e_bs]
  cases hx : isReg x with
  | false =>
    rw [if_neg (by decide)]
    refine ⟨-1, σ, _, rfl, ?_, fin_q ok h hr.told f0⟩
    unfold f_X11_register
    rw [e_pF, r_isReg, e_bs, hx, if_neg (by decide)]
  | true =>
    rw [if_pos rfl, e_gZ hb]
    obtain ⟨p, hp, rfl⟩ := isReg_idx hx
    cases hbt : b with
    | false =>
      obtain ⟨b3, τ, e3, q3, l3, _, _, hc3⟩ := r_cons hr.told ok
      have hbb : b3 = b := bool_iff hc3 hB
      rw [if_neg (by decide)]
      refine ⟨-1, σ, τ, rfl, ?_, fin_q ok h q3 (f0.trans l3)⟩
      unfold f_X11_register
      rw [e_pF, r_isReg, e_bs, hx, if_pos rfl, e3, e_bq, hbb, hbt, if_neg (by decide)]
    | true =>
      have hcons := hB.mp hbt
      have hJ := Cons.jac hG hcons
      rw [if_pos rfl, e_gR ln_5 hp (by omega), rf_5 hp]
      have sA := reg_sb ok p
      have sA2 : ∀ i, -999 ≤ aR S p i ∧ aR S p i ≤ 999 := fun i => ok.1.2.1 p i
      have zA2 : ∀ i, gn (aG S) ≤ i → aR S p i = 0 := fun i hi => ok.1.2.2 p i hi
      have ref : ∀ σ2, HI σ σ2 → ∃ τ f, LO σ2 τ ∧ MG τ (aG S) ∧ M0 τ ∧ (∀ g, IRef S (PS τ g)) ∧ (∀ g, LO τ (PS τ g)) ∧ IRef S τ ∧ f 0 = aR S p ∧ (∀ r τ', (0 ≤ w.toInt ∧ w.toInt ≤ 7) → rbr (i32 p) w (PS τ f) = some (r, τ') → f_X11_register σ2 (i32 p) w = some (r, τ')) ∧ (¬ (0 ≤ w.toInt ∧ w.toInt ≤ 7) → f_X11_register σ2 (i32 p) w = some (-1, τ)) := by
        intro σ2 hi2
        obtain ⟨b3, τ, e3, q3, l3, _, _, hc3⟩ := r_cons (hr.hi hi2).told ok
        have hb3 : b3 = true := hc3.mpr hcons
        subst hb3
        obtain ⟨⟨f, hf⟩, hI, hL, hM, h0, hRB⟩ := at_slots q3
        have f2 : LO σ2 (wI σ2 306 0 0) := LO.row (by omega)
        have a1 : f_X11_laysRegister τ 0 (i32 p) = some (PS τ (uS f 0 (aR S p))) := by
          have := p_lays (σ := τ) (f := f) hRB ok (s := 0) (by omega) hp
          rw [hf] at this
          exact this
        refine ⟨τ, uS f 0 (aR S p), f2.trans l3, hM, h0, hI, hL, q3, uS_self, fun r τ' hw e => ?_, fun hw => ?_⟩
        · unfold f_X11_register
          rw [e_pF, r_isReg, e_bs, hx, if_pos rfl, e3, e_bq, if_pos rfl, show (0 : Int64) = oi 0 from rfl, show (7 : Int64) = oi 7 from rfl, ew, e_bs, decide_eq_true hw, if_pos rfl, a1, e_bs]
          exact e
        · unfold f_X11_register
          rw [e_pF, r_isReg, e_bs, hx, if_pos rfl, e3, e_bq, if_pos rfl, show (0 : Int64) = oi 0 from rfl, show (7 : Int64) = oi 7 from rfl, ew, e_bs, decide_eq_false hw, if_neg (by decide)]
      by_cases w0 : w = 0
      · subst w0
        rw [if_pos rfl]
        obtain ⟨r, e1, hl⟩ := c_layerOf hG h.1.1 (ln_reg hp) (c_reg h hp)
        obtain ⟨τ, f, l2, hM, h0, hI, hL, q3, hf0, hyes, _⟩ := ref σ HI.refl
        obtain ⟨r2, e2, hl2⟩ := r_layer (σ := τ) (f := f) hG hM (s := 0) (by omega)
        rw [hf0] at hl2
        have hrr := hl.uniq hl2
        subst hrr
        have e2' : f_X11_layer (PS τ f) 0 = some r := e2
        rw [e1, e_bs]
        refine ⟨r, σ, PS τ f, rfl, hyes _ _ (by decide) ?_, fin_q ok h (hI f) (l2.trans (hL f))⟩
        unfold rbr
        rw [if_pos rfl, e2', e_bs]
      · rw [if_neg w0]
        by_cases w1 : w = 1
        · subst w1
          rw [if_pos rfl]
          obtain ⟨b1, σ1, e1, h1, hi1, hb1⟩ := c_commutesAll h ok hcons hp
          obtain ⟨τ, f, l2, hM, h0, hI, hL, q3, hf0, hyes, _⟩ := ref σ1 hi1
          obtain ⟨b2, g, e2, hb2, _⟩ := r_central (σ := τ) (f := f) hG hJ hM h0 (s := 0) (t := 1) (by omega) (by omega) (by rw [hf0]; exact sA)
          rw [hf0] at hb2
          have hbb : b1 = b2 := bool_iff hb1 hb2
          subst hbb
          have e2' : f_X11_isCentral (PS τ f) 0 1 = some (b1, PS τ g) := e2
          rw [e1, e_bq, c_bitB, e_bs]
          refine ⟨_, σ1, PS τ g, rfl, hyes _ _ (by decide) ?_, fin_q ok h1 (hI g) (l2.trans (hL g))⟩
          unfold rbr
          rw [if_neg (by decide), if_pos rfl, e2', e_bq]
          split <;> rfl
        · rw [if_neg w1]
          by_cases w2 : w = 2
          · subst w2
            rw [if_pos rfl, c_isOne hG (ln_reg hp) (c_reg h hp) (reg_z6 ok p), e_bs, c_bitB, e_bs]
            obtain ⟨τ, f, l2, hM, h0, hI, hL, q3, hf0, hyes, _⟩ := ref σ HI.refl
            have e2 : f_X11_isOne (PS τ f) 0 = some (isO (aG S) (f 0)) := p_isOne hM hG (s := 0) (by omega)
            rw [hf0] at e2
            refine ⟨_, σ, PS τ f, rfl, hyes _ _ (by decide) ?_, fin_q ok h (hI f) (l2.trans (hL f))⟩
            unfold rbr
            rw [if_neg (by decide), if_neg (by decide), if_pos rfl, e2, e_bs]
            split <;> rfl
          · rw [if_neg w2]
            by_cases w3 : w = 3
            · subst w3
              rw [if_pos rfl]
              obtain ⟨σ1, e1, h1, hi1⟩ := c_level hc h ok hcons hp
              obtain ⟨τ, f, l2, hM, h0, hI, hL, q3, hf0, hyes, _⟩ := ref σ1 hi1
              obtain ⟨τ2, g, e2, fr⟩ := r_short (σ := τ) (f := f) hG hM h0 hf0
              rw [e1, e_bq]
              have qI : IRef S (PS τ2 g) := (q3.sr fr.sr).sr PS.sr
              refine ⟨_, σ1, PS τ2 g, rfl, hyes _ _ (by decide) ?_, fin_q ok h1 qI (l2.trans (fr.sr.lo.trans PS.sr.lo))⟩
              unfold rbr
              rw [if_neg (by decide), if_neg (by decide), if_neg (by decide), if_pos rfl, e2, e_bq]
            · rw [if_neg w3]
              by_cases w4 : w = 4
              · subst w4
                rw [if_pos rfl]
                obtain ⟨r, σ1, e1, h1, hi1, hg1⟩ := c_roots h ok hcons hp
                obtain ⟨τ, f, l2, hM, h0, hI, hL, q3, hf0, hyes, _⟩ := ref σ1 hi1
                obtain ⟨r2, g, e2, hg2⟩ := r_roots (σ := τ) (f := f) hG hM h0 hf0 sA
                have hrr := hg1.uniq hg2
                subst hrr
                rw [e1, e_bq]
                refine ⟨_, σ1, PS τ g, rfl, hyes _ _ (by decide) ?_, fin_q ok h1 (hI g) (l2.trans (hL g))⟩
                unfold rbr
                rw [if_neg (by decide), if_neg (by decide), if_neg (by decide), if_neg (by decide), if_neg (by decide), if_neg (by decide), if_pos rfl, e2, e_bq]
              · rw [if_neg w4]
                by_cases w5 : w = 5
                · subst w5
                  rw [if_pos rfl, c_sameAs h ok hp, e_bs]
                  obtain ⟨τ, f, l2, hM, h0, hI, hL, q3, hf0, hyes, _⟩ := ref σ HI.refl
                  obtain ⟨g, e2⟩ := r_sameAs (σ := τ) (f := f) (p := p) (x := i32 p) ok q3.1 hf0
                  refine ⟨_, σ, PS τ g, rfl, hyes _ _ (by decide) ?_, fin_q ok h (hI g) (l2.trans (hL g))⟩
                  unfold rbr
                  rw [if_neg (by decide), if_neg (by decide), if_neg (by decide), if_neg (by decide), if_neg (by decide), if_neg (by decide), if_neg (by decide), e2, e_bq]
                · rw [if_neg w5]
                  by_cases w6 : w = 6
                  · subst w6
                    rw [if_pos rfl]
                    obtain ⟨r, σ1, e1, s1, hl1⟩ := c_leastMade (most := 1) h ok hcons hp (by omega)
                    have e1' : f_X10_leastMade σ (6 + p) 1 = some (r, σ1) := e1
                    obtain ⟨τ, f, l2, hM, h0, hI, hL, q3, hf0, hyes, _⟩ := ref σ1 s1.hi
                    have hV : VA (PS τ f) (aR S p) := fun i hi => by rw [PS_vec (by omega) hi, hf0]
                    obtain ⟨b2, τ2, e2, fr, hb2⟩ := r_isMade (σ := PS τ f) (t := 1) hG (PS_MG hM) hV sA2 zA2 (by omega)
                    have e2' : f_X11_isMade (PS τ f) 0 1 = some (b2, τ2) := e2
                    have hrr : r = if b2 = true then 1 else 0 := by
                      refine hl1.uniq ?_
                      cases hb : b2 with
                      | true => exact Or.inl ⟨1, by omega, by omega, hb2.mp hb, fun q q1 q2 => by omega, rfl⟩
                      | false =>
                        refine Or.inr ⟨fun q q1 q2 => ?_, rfl⟩
                        have hq : q = 1 := by omega
                        subst hq
                        intro z
                        have := hb2.mpr z
                        rw [hb] at this
                        cases this
                    rw [e1', e_bq]
                    refine ⟨r, σ1, τ2, rfl, hyes _ _ (by decide) ?_, fin_q ok (h.sc s1) ((hI f).sr fr.sr) (l2.trans ((hL f).trans fr.sr.lo))⟩
                    unfold rbr
                    rw [if_neg (by decide), if_neg (by decide), if_neg (by decide), if_neg (by decide), if_pos rfl, e2', e_bq, hrr]
                    split <;> rfl
                  · rw [if_neg w6]
                    by_cases w7 : w = 7
                    · subst w7
                      rw [if_pos rfl]
                      obtain ⟨r, σ1, e1, s1, hl1⟩ := c_leastMade (most := 99) h ok hcons hp (by omega)
                      have e1' : f_X10_leastMade σ (6 + p) 99 = some (r, σ1) := e1
                      obtain ⟨τ, f, l2, hM, h0, hI, hL, q3, hf0, hyes, _⟩ := ref σ1 s1.hi
                      have hV : VA (PS τ f) (aR S p) := fun i hi => by rw [PS_vec (by omega) hi, hf0]
                      obtain ⟨r2, τ2, e2, fr, hl2⟩ := r_leastMade (σ := PS τ f) hG (PS_MG hM) hV sA2 zA2
                      have hrr := hl1.uniq hl2
                      subst hrr
                      rw [e1', e_bq]
                      refine ⟨r, σ1, τ2, rfl, hyes _ _ (by decide) ?_, fin_q ok (h.sc s1) ((hI f).sr fr.sr) (l2.trans ((hL f).trans fr.sr.lo))⟩
                      unfold rbr
                      rw [if_neg (by decide), if_neg (by decide), if_neg (by decide), if_neg (by decide), if_neg (by decide), if_pos rfl, e2, e_bq]
                    · rw [if_neg w7]
                      obtain ⟨τ, f, l2, hM, h0, hI, hL, q3, hf0, _, hno⟩ := ref σ HI.refl
                      refine ⟨-1, σ, τ, rfl, hno (fun q => ?_), fin_q ok h q3 l2⟩
                      have hwi := i32_of (x := w) q.1
                      rcases (show w.toInt.toNat = 0 ∨ w.toInt.toNat = 1 ∨ w.toInt.toNat = 2 ∨ w.toInt.toNat = 3 ∨ w.toInt.toNat = 4 ∨ w.toInt.toNat = 5 ∨ w.toInt.toNat = 6 ∨ w.toInt.toNat = 7 by omega) with z | z | z | z | z | z | z | z <;> rw [z] at hwi
                      · exact w0 hwi
                      · exact w1 hwi
                      · exact w2 hwi
                      · exact w3 hwi
                      · exact w4 hwi
                      · exact w5 hwi
                      · exact w6 hwi
                      · exact w7 hwi
end RGC
