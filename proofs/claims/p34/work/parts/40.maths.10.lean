section
/-! register: the call -/
section RGC
variable {σ : Mem} {G : GD}
noncomputable def rbr (x0 x1 : Int32) (σ6 : Mem) : Option (Int32 × Mem) := if x1 = 0 then ((f_X11_layer σ6 0).bind (fun (v20 : Int32) => some (v20, σ6))) else (if x1 = 1 then (bq (f_X11_isCentral σ6 0 1) (fun (b18 : Bool) (σ19 : Mem) => if b18 then some (1, σ19) else some (0, σ19))) else (if x1 = 2 then ((f_X11_isOne σ6 0).bind (fun (b17 : Bool) => if b17 then some (1, σ6) else some (0, σ6))) else (if x1 = 3 then (bq (f_X11_shortOf σ6 0) (fun (v15 : Int32) (σ16 : Mem) => some (v15, σ16))) else (if x1 = 6 then (bq (f_X11_isMade σ6 0 1) (fun (b13 : Bool) (σ14 : Mem) => if b13 then some (1, σ14) else some (0, σ14))) else (if x1 = 7 then (bq (f_X11_leastMade σ6 0) (fun (v11 : Int32) (σ12 : Mem) => some (v11, σ12))) else (if x1 = 4 then (bq (f_X11_greatestRoot σ6 0) (fun (v9 : Int32) (σ10 : Mem) => some (v9, σ10))) else (bq (f_X11_sameAs σ6 x0) (fun (v7 : Int32) (σ8 : Mem) => some (v7, σ8)))))))))
theorem ok_23 : Ok_23 II := by
  intro c σ x w hc ⟨S, ok, h, hr⟩
  have hG : GOK (aG S) := ok.1.1
  have hn : gn (aG S) ≤ 6 := hG.2.1
  obtain ⟨b, hb, hB⟩ := c_cons h
  have ew := fun τ : Mem => r_in (σ := τ) (x := w) (l := 0) (u := 7) ⟨by omega, by omega⟩ ⟨by omega, by omega⟩
  have f0 : LO σ (wI σ 306 0 0) := LO.row (by omega)
  unfold f_X10_register
  rw [c_isReg, e_bs]
  cases hx : isReg x with
  | false =>
    rw [if_neg (by decide)]
    refine ⟨-1, σ, _, rfl, ?_, fin_q ok h hr.told f0⟩
    unfold f_X11_register
    rw [e_pF, r_isReg, e_bs, hx, if_neg (by decide)]
  | true =>
    rw [if_pos rfl, e_gZ hb]
    obtain ⟨p, hp, rfl⟩ := isReg_idx hx
    cases hbt : b with
    | false =>
      obtain ⟨b3, τ, e3, q3, l3, _, _, hc3⟩ := r_cons hr.told ok
      have hbb : b3 = b := bool_iff hc3 hB
      rw [if_neg (by decide)]
      refine ⟨-1, σ, τ, rfl, ?_, fin_q ok h q3 (f0.trans l3)⟩
      unfold f_X11_register
      rw [e_pF, r_isReg, e_bs, hx, if_pos rfl, e3, e_bq, hbb, hbt, if_neg (by decide)]
    | true =>
      have hcons := hB.mp hbt
      have hJ := Cons.jac hG hcons
      rw [if_pos rfl, e_gR ln_5 hp (by omega), rf_5 hp]
      have sA := reg_sb ok p
      have sA2 : ∀ i, -999 ≤ aR S p i ∧ aR S p i ≤ 999 := fun i => ok.1.2.1 p i
      have zA2 : ∀ i, gn (aG S) ≤ i → aR S p i = 0 := fun i hi => ok.1.2.2 p i hi
      have ref : ∀ σ2, HI σ σ2 → ∃ τ f, LO σ2 τ ∧ MG τ (aG S) ∧ M0 τ ∧ (∀ g, IRef S (PS τ g)) ∧ (∀ g, LO τ (PS τ g)) ∧ IRef S τ ∧ f 0 = aR S p ∧ (∀ r τ', (0 ≤ w.toInt ∧ w.toInt ≤ 7) → rbr (i32 p) w (PS τ f) = some (r, τ') → f_X11_register σ2 (i32 p) w = some (r, τ')) ∧ (¬ (0 ≤ w.toInt ∧ w.toInt ≤ 7) → f_X11_register σ2 (i32 p) w = some (-1, τ)) := by
        intro σ2 hi2
        obtain ⟨b3, τ, e3, q3, l3, _, _, hc3⟩ := r_cons (hr.hi hi2).told ok
        have hb3 : b3 = true := hc3.mpr hcons
        subst hb3
        obtain ⟨⟨f, hf⟩, hI, hL, hM, h0, hRB⟩ := at_slots q3
        have f2 : LO σ2 (wI σ2 306 0 0) := LO.row (by omega)
        have a1 : f_X11_laysRegister τ 0 (i32 p) = some (PS τ (uS f 0 (aR S p))) := by
          have := p_lays (σ := τ) (f := f) hRB ok (s := 0) (by omega) hp
          rw [hf] at this
          exact this
        refine ⟨τ, uS f 0 (aR S p), f2.trans l3, hM, h0, hI, hL, q3, uS_self, fun r τ' hw e => ?_, fun hw => ?_⟩
        · unfold f_X11_register
          rw [e_pF, r_isReg, e_bs, hx, if_pos rfl, e3, e_bq, if_pos rfl, show (0 : Int64) = oi 0 from rfl, show (7 : Int64) = oi 7 from rfl, ew, e_bs, decide_eq_true hw, if_pos rfl, a1, e_bs]
          exact e
        · unfold f_X11_register
          rw [e_pF, r_isReg, e_bs, hx, if_pos rfl, e3, e_bq, if_pos rfl, show (0 : Int64) = oi 0 from rfl, show (7 : Int64) = oi 7 from rfl, ew, e_bs, decide_eq_false hw, if_neg (by decide)]
      by_cases w0 : w = 0
      · subst w0
        rw [if_pos rfl]
        obtain ⟨r, e1, hl⟩ := c_layerOf hG h.1.1 (ln_reg hp) (c_reg h hp)
        obtain ⟨τ, f, l2, hM, h0, hI, hL, q3, hf0, hyes, _⟩ := ref σ HI.refl
        obtain ⟨r2, e2, hl2⟩ := r_layer (σ := τ) (f := f) hG hM (s := 0) (by omega)
        rw [hf0] at hl2
        have hrr := hl.uniq hl2
        subst hrr
        have e2' : f_X11_layer (PS τ f) 0 = some r := e2
        rw [e1, e_bs]
        refine ⟨r, σ, PS τ f, rfl, hyes _ _ (by decide) ?_, fin_q ok h (hI f) (l2.trans (hL f))⟩
        unfold rbr
        rw [if_pos rfl, e2', e_bs]
      · rw [if_neg w0]
        by_cases w1 : w = 1
        · subst w1
          rw [if_pos rfl]
          obtain ⟨b1, σ1, e1, h1, hi1, hb1⟩ := c_commutesAll h ok hcons hp
          obtain ⟨τ, f, l2, hM, h0, hI, hL, q3, hf0, hyes, _⟩ := ref σ1 hi1
          obtain ⟨b2, g, e2, hb2, _⟩ := r_central (σ := τ) (f := f) hG hJ hM h0 (s := 0) (t := 1) (by omega) (by omega) (by rw [hf0]; exact sA)
          rw [hf0] at hb2
          have hbb : b1 = b2 := bool_iff hb1 hb2
          subst hbb
          have e2' : f_X11_isCentral (PS τ f) 0 1 = some (b1, PS τ g) := e2
          rw [e1, e_bq, c_bitB, e_bs]
          refine ⟨_, σ1, PS τ g, rfl, hyes _ _ (by decide) ?_, fin_q ok h1 (hI g) (l2.trans (hL g))⟩
          unfold rbr
          rw [if_neg (by decide), if_pos rfl, e2', e_bq]
          split <;> rfl
        · rw [if_neg w1]
          by_cases w2 : w = 2
          · subst w2
            rw [if_pos rfl, c_isOne hG (ln_reg hp) (c_reg h hp) (reg_z6 ok p), e_bs, c_bitB, e_bs]
            obtain ⟨τ, f, l2, hM, h0, hI, hL, q3, hf0, hyes, _⟩ := ref σ HI.refl
            have e2 : f_X11_isOne (PS τ f) 0 = some (isO (aG S) (f 0)) := p_isOne hM hG (s := 0) (by omega)
            rw [hf0] at e2
            refine ⟨_, σ, PS τ f, rfl, hyes _ _ (by decide) ?_, fin_q ok h (hI f) (l2.trans (hL f))⟩
            unfold rbr
            rw [if_neg (by decide), if_neg (by decide), if_pos rfl, e2, e_bs]
            split <;> rfl
          · rw [if_neg w2]
            by_cases w3 : w = 3
            · subst w3
              rw [if_pos rfl]
              obtain ⟨σ1, e1, h1, hi1⟩ := c_level hc h ok hcons hp
              obtain ⟨τ, f, l2, hM, h0, hI, hL, q3, hf0, hyes, _⟩ := ref σ1 hi1
              obtain ⟨τ2, g, e2, fr⟩ := r_short (σ := τ) (f := f) hG hM h0 hf0
              rw [e1, e_bq]
              have qI : IRef S (PS τ2 g) := (q3.sr fr.sr).sr PS.sr
              refine ⟨_, σ1, PS τ2 g, rfl, hyes _ _ (by decide) ?_, fin_q ok h1 qI (l2.trans (fr.sr.lo.trans PS.sr.lo))⟩
              unfold rbr
              rw [if_neg (by decide), if_neg (by decide), if_neg (by decide), if_pos rfl, e2, e_bq]
            · rw [if_neg w3]
              by_cases w4 : w = 4
              · subst w4
                rw [if_pos rfl]
                obtain ⟨r, σ1, e1, h1, hi1, hg1⟩ := c_roots h ok hcons hp
                obtain ⟨τ, f, l2, hM, h0, hI, hL, q3, hf0, hyes, _⟩ := ref σ1 hi1
                obtain ⟨r2, g, e2, hg2⟩ := r_roots (σ := τ) (f := f) hG hM h0 hf0 sA
                have hrr := hg1.uniq hg2
                subst hrr
                rw [e1, e_bq]
                refine ⟨_, σ1, PS τ g, rfl, hyes _ _ (by decide) ?_, fin_q ok h1 (hI g) (l2.trans (hL g))⟩
                unfold rbr
                rw [if_neg (by decide), if_neg (by decide), if_neg (by decide), if_neg (by decide), if_neg (by decide), if_neg (by decide), if_pos rfl, e2, e_bq]
              · rw [if_neg w4]
                by_cases w5 : w = 5
                · subst w5
                  rw [if_pos rfl, c_sameAs h ok hp, e_bs]
                  obtain ⟨τ, f, l2, hM, h0, hI, hL, q3, hf0, hyes, _⟩ := ref σ HI.refl
                  obtain ⟨g, e2⟩ := r_sameAs (σ := τ) (f := f) (p := p) (x := i32 p) ok q3.1 hf0
                  refine ⟨_, σ, PS τ g, rfl, hyes _ _ (by decide) ?_, fin_q ok h (hI g) (l2.trans (hL g))⟩
                  unfold rbr
                  rw [if_neg (by decide), if_neg (by decide), if_neg (by decide), if_neg (by decide), if_neg (by decide), if_neg (by decide), if_neg (by decide), e2, e_bq]
                · rw [if_neg w5]
                  by_cases w6 : w = 6
                  · subst w6
                    rw [if_pos rfl]
                    obtain ⟨r, σ1, e1, s1, hl1⟩ := c_leastMade (most := 1) h ok hcons hp (by omega)
                    have e1' : f_X10_leastMade σ (6 + p) 1 = some (r, σ1) := e1
                    obtain ⟨τ, f, l2, hM, h0, hI, hL, q3, hf0, hyes, _⟩ := ref σ1 s1.hi
                    have hV : VA (PS τ f) (aR S p) := fun i hi => by rw [PS_vec (by omega) hi, hf0]
                    obtain ⟨b2, τ2, e2, fr, hb2⟩ := r_isMade (σ := PS τ f) (t := 1) hG (PS_MG hM) hV sA2 zA2 (by omega)
                    have e2' : f_X11_isMade (PS τ f) 0 1 = some (b2, τ2) := e2
                    have hrr : r = if b2 = true then 1 else 0 := by
                      refine hl1.uniq ?_
                      cases hb : b2 with
                      | true => exact Or.inl ⟨1, by omega, by omega, hb2.mp hb, fun q q1 q2 => by omega, rfl⟩
                      | false =>
                        refine Or.inr ⟨fun q q1 q2 => ?_, rfl⟩
                        have hq : q = 1 := by omega
                        subst hq
                        intro z
                        have := hb2.mpr z
                        rw [hb] at this
                        cases this
                    rw [e1', e_bq]
                    refine ⟨r, σ1, τ2, rfl, hyes _ _ (by decide) ?_, fin_q ok (h.sc s1) ((hI f).sr fr.sr) (l2.trans ((hL f).trans fr.sr.lo))⟩
                    unfold rbr
                    rw [if_neg (by decide), if_neg (by decide), if_neg (by decide), if_neg (by decide), if_pos rfl, e2', e_bq, hrr]
                    split <;> rfl
                  · rw [if_neg w6]
                    by_cases w7 : w = 7
                    · subst w7
                      rw [if_pos rfl]
                      obtain ⟨r, σ1, e1, s1, hl1⟩ := c_leastMade (most := 99) h ok hcons hp (by omega)
                      have e1' : f_X10_leastMade σ (6 + p) 99 = some (r, σ1) := e1
                      obtain ⟨τ, f, l2, hM, h0, hI, hL, q3, hf0, hyes, _⟩ := ref σ1 s1.hi
                      have hV : VA (PS τ f) (aR S p) := fun i hi => by rw [PS_vec (by omega) hi, hf0]
                      obtain ⟨r2, τ2, e2, fr, hl2⟩ := r_leastMade (σ := PS τ f) hG (PS_MG hM) hV sA2 zA2
                      have hrr := hl1.uniq hl2
                      subst hrr
                      rw [e1', e_bq]
                      refine ⟨r, σ1, τ2, rfl, hyes _ _ (by decide) ?_, fin_q ok (h.sc s1) ((hI f).sr fr.sr) (l2.trans ((hL f).trans fr.sr.lo))⟩
                      unfold rbr
                      rw [if_neg (by decide), if_neg (by decide), if_neg (by decide), if_neg (by decide), if_neg (by decide), if_pos rfl, e2, e_bq]
                    · rw [if_neg w7]
                      obtain ⟨τ, f, l2, hM, h0, hI, hL, q3, hf0, _, hno⟩ := ref σ HI.refl
                      refine ⟨-1, σ, τ, rfl, hno (fun q => ?_), fin_q ok h q3 l2⟩
                      have hwi := i32_of (x := w) q.1
                      rcases (show w.toInt.toNat = 0 ∨ w.toInt.toNat = 1 ∨ w.toInt.toNat = 2 ∨ w.toInt.toNat = 3 ∨ w.toInt.toNat = 4 ∨ w.toInt.toNat = 5 ∨ w.toInt.toNat = 6 ∨ w.toInt.toNat = 7 by omega) with z | z | z | z | z | z | z | z <;> rw [z] at hwi
                      · exact w0 hwi
                      · exact w1 hwi
                      · exact w2 hwi
                      · exact w3 hwi
                      · exact w4 hwi
                      · exact w5 hwi
                      · exact w6 hwi
                      · exact w7 hwi
end RGC
end
section
/-! the reference: making ends whatever is due -/
section TOT
variable {σ : Mem}
/-- one number cleared, whatever is due -/
def CloT (m f k : Nat) (D : Nat → Nat → Int) (pv : Bool) : Prop := (pv = false ∧ ∀ c, f ≤ c → c < m → D c k = 0) ∨ (pv = true ∧ f < m ∧ D f k ≠ 0 ∧ ∀ c, f < c → c < m → D c k = 0)
theorem r_clearsAtT {C : Nat → Nat → Int} {m f k : Nat} (hm : m ≤ 20) (hfm : f ≤ m) (hk : k < 18) (hC : Cl σ C m) (h31 : σ.1 306 31 = i32 m) (h33 : σ.1 306 33 = 0) (hX : ∀ c, f ≤ c → c < m → Wi (2 ^ 62) (C c k)) : ∃ b pv τ D, f_X11_clearsAt σ (i32 f) (i32 k) = some (b, τ) ∧ FCm σ τ ∧ τ.1 306 34 = σ.1 306 34 ∧ τ.1 306 33 = b2i pv ∧ Cl τ D m ∧ Cln m f k C D ∧ CloT m f k D pv := by
  obtain ⟨x, e, τ, D, fr, hD, hcl, hW, hx⟩ := r_clearLoop hm hfm hk hC h31 hX
  have g33 : τ.1 306 33 = 0 := by rw [fr.1]; exact h33
  unfold f_X11_clearsAt
  rw [e, e_bs]
  rcases hx with ⟨rfl, hz⟩ | ⟨rfl, hf1, hp, hz⟩
  · refine ⟨decide (τ.2 321 k = 0), false, τ, D, ?_, fr.cm, by rw [fr.1], g33, hD, hcl, Or.inl ⟨rfl, hz⟩⟩
    show (j_X11_clearsAt_75 (i32 k) τ).bind _ = _
    unfold j_X11_clearsAt_75
    rw [e_gL ln_321 hk (by omega)]
    by_cases h0 : τ.2 321 k = 0
    · rw [if_pos h0, e_bs, decide_eq_true h0]
      rfl
    · rw [if_neg h0, e_bs, decide_eq_false h0]
      rfl
  · have wf := hW f (Nat.le_refl _) hf1
    have fr1 : FCm σ (wI τ 306 33 1) := fr.cm.trans (FCm.fld (by omega))
    have q1 : (wI τ 306 33 1).1 306 34 = σ.1 306 34 := by rw [wI_1, if_neg (by omega), fr.1]
    have q2 : (wI τ 306 33 1).1 306 33 = b2i true := by rw [wI_1, if_pos ⟨rfl, rfl⟩]; rfl
    have hD1 : Cl (wI τ 306 33 1) D m := hD
    have vp : f_X11_ofColumn (wI τ 306 33 1) (i32 f) (i32 k) = some (oi (D f k)) := by rw [r_ofColumn (by omega) hk]; exact congrArg some (hD f k hf1 hk)
    have np : oi (D f k) ≠ 0 := fun q => hp ((oi_is0 wf).mp q)
    show ∃ b pv τ' D, (j_X11_clearsAt_176 (i32 f) (i32 k) τ) = some (b, τ') ∧ _
    unfold j_X11_clearsAt_176
    rw [e_pF, e_gL ln_321 hk (by omega), vp, e_bs, e_nzL np]
    split
    · rw [e_gL ln_321 hk (by omega), e_bs, e_nzL np, e_bd, r_dueLess (by omega)]
      exact ⟨true, true, _, D, rfl, fr1.trans ⟨fun _ _ => rfl, fun _ _ _ => rfl, fun x _ h2 => rwL_x h2⟩, q1, q2, fun c j hc hj => by rw [rwL_x (by omega)]; exact hD c j hc hj, hcl, Or.inr ⟨rfl, hf1, hp, hz⟩⟩
    · exact ⟨false, true, _, D, rfl, fr1, q1, q2, hD1, hcl, Or.inr ⟨rfl, hf1, hp, hz⟩⟩
theorem r_canMakeT {C0 : Nat → Nat → Int} {m : Nat} {Bd : Nat → Nat → (Nat → Nat → Int) → Prop} (hm : m ≤ 20) (hC : Cl σ C0 m) (h31 : σ.1 306 31 = i32 m) (hB : ∀ k f C, k < 6 → f ≤ m → Bd k f C → (∀ c, f ≤ c → c < m → Wi (2 ^ 62) (C c k)) ∧ ∀ D pv, Cln m f k C D → CloT m f k D pv → Bd (k + 1) (f + if pv = true then 1 else 0) D) (h0 : Bd 0 0 C0) : ∃ b τ, f_X11_canMake σ = some (b, τ) ∧ FCm σ τ ∧ (b = true → ∃ f C, f ≤ m ∧ τ.1 306 34 = i32 f ∧ Cl τ C m ∧ Bd 6 f C) := by
  unfold f_X11_canMake
  rw [e_pF]
  have hl := loop_inv (body := fun (z3 : (Mem × Int32)) => l_X11_canMake_7 z3.1 z3.2) (fun n z => ∃ k f C τ, k ≤ 6 ∧ f ≤ m ∧ n = 6 - k ∧ z = (τ, i32 k) ∧ FCm σ τ ∧ τ.1 306 34 = i32 f ∧ Cl τ C m ∧ Bd k f C) (fun x => ∃ b τ, x = (b, τ) ∧ FCm σ τ ∧ (b = true → ∃ f C, f ≤ m ∧ τ.1 306 34 = i32 f ∧ Cl τ C m ∧ Bd 6 f C)) ?_ 6 (wI σ 306 34 0, 0) ⟨0, 0, C0, wI σ 306 34 0, by omega, by omega, rfl, rfl, FCm.fld (by omega), by rw [wI_1, if_pos ⟨rfl, rfl⟩]; rfl, hC, h0⟩
  · obtain ⟨x, e, b, τ, rfl, h1, h2⟩ := hl
    exact ⟨b, τ, e, h1, h2⟩
  · rintro n z ⟨k, f, C, τ, hk, hfm, rfl, rfl, fr, h34, hC, hBd⟩
    by_cases hk6 : k = 6
    · right
      subst hk6
      refine ⟨_, ?_, true, τ, rfl, fr, fun _ => ⟨f, C, hfm, h34, hC, hBd⟩⟩
      show l_X11_canMake_7 τ (i32 6) = _
      unfold l_X11_canMake_7
      rw [if_pos (by decide)]
    · have hk' : k < 6 := by omega
      obtain ⟨hX, hnext⟩ := hB k f C hk' hfm hBd
      have g31 : (wI τ 306 33 0).1 306 31 = i32 m := by rw [wI_1, if_neg (by omega), fr.2.1 31 (by omega) (by omega)]; exact h31
      have g34 : (wI τ 306 33 0).1 306 34 = i32 f := by rw [wI_1, if_neg (by omega)]; exact h34
      have g33 : (wI τ 306 33 0).1 306 33 = 0 := by rw [wI_1, if_pos ⟨rfl, rfl⟩]
      obtain ⟨b, pv, τ2, D, e, fr2, q34, q33, hD, hcl, hclo⟩ := r_clearsAtT (σ := wI τ 306 33 0) (C := C) (f := f) (k := k) hm hfm (by omega) hC g31 g33 hX
      have FR : FCm σ τ2 := fr.trans ((FCm.fld (by omega)).trans fr2)
      have h6 : ¬ 6 ≤ i32 k := i_nle (a := 6) hk' (by omega)
      cases b with
      | false =>
        right
        refine ⟨(false, τ2), ?_, false, τ2, rfl, FR, fun q => absurd q (by decide)⟩
        show l_X11_canMake_7 τ (i32 k) = _
        unfold l_X11_canMake_7
        rw [if_neg h6, e_pF, e_gF, g34, e, e_bq, if_neg (by decide)]
      | true =>
        left
        have hB2 := hnext D pv hcl hclo
        rw [g34] at q34
        cases pv with
        | true =>
          have hf1 : f < m := by
            rcases hclo with ⟨q, _⟩ | ⟨_, q, _⟩
            · exact absurd q (by decide)
            · exact q
          rw [if_pos rfl] at hB2
          have FR3 : FCm σ (wI τ2 306 34 (i32 (f + 1))) := FR.trans (FCm.fld (by omega))
          refine ⟨(wI τ2 306 34 (i32 (f + 1)), i32 (k + 1)), 6 - (k + 1), by omega, ?_, k + 1, f + 1, D, _, by omega, hf1, rfl, rfl, FR3, by rw [wI_1, if_pos ⟨rfl, rfl⟩], hD, hB2⟩
          show l_X11_canMake_7 τ (i32 k) = _
          unfold l_X11_canMake_7
          rw [if_neg h6, e_pF, e_gF, g34, e, e_bq, if_pos rfl, e_gZ q33, if_pos rfl, e_gF, q34, e_pF, e_bs, i32_1, i32_add]
          unfold j_X11_canMake_49
          rw [i32_1, i32_add]
        | false =>
          rw [if_neg (by decide), Nat.add_zero] at hB2
          refine ⟨(τ2, i32 (k + 1)), 6 - (k + 1), by omega, ?_, k + 1, f, D, _, by omega, hfm, rfl, rfl, FR, q34, hD, hB2⟩
          show l_X11_canMake_7 τ (i32 k) = _
          unfold l_X11_canMake_7
          rw [if_neg h6, e_pF, e_gF, g34, e, e_bq, if_pos rfl, e_gZ q33, if_neg (by decide), e_bs]
          unfold j_X11_canMake_49
          rw [i32_1, i32_add]
end TOT
end
section
/-! the reference's columns: how their numbers grow by what is cleared -/
section GRO
variable {C D : Nat → Nat → Int} {m f k : Nat}
theorem Cln.nz (h : Cln m f k C D) (hz : ∀ c, f ≤ c → c < m → D c k = 0) : ∀ c, f ≤ c → c < m → C c k = 0 := by
  intro c c1 c2
  refine Classical.byContradiction (fun q => ?_)
  obtain ⟨e, e1, e2, e3⟩ := h (fun E => ∃ e, f ≤ e ∧ e < m ∧ E e k ≠ 0) (fun E b b1 b2 i => by
    obtain ⟨e, e1, e2, e3⟩ := i
    by_cases h1 : e = b
    · refine ⟨f, Nat.le_refl _, by omega, ?_⟩
      rw [swp_f, ← h1]
      exact e3
    · by_cases h2 : e = f
      · refine ⟨b, b1, b2, ?_⟩
        unfold swpC
        rw [if_pos rfl, ← h2]
        exact e3
      · refine ⟨e, e1, e2, ?_⟩
        unfold swpC
        rw [if_neg h1, if_neg h2]
        exact e3) (fun E h0 _ i => by
    obtain ⟨e, e1, e2, e3⟩ := i
    refine ⟨f, Nat.le_refl _, by omega, ?_⟩
    rw [rnd_at (by omega)]
    exact h0) ⟨c, c1, c2, q⟩
  exact e3 (hz e e1 e2)
theorem Cln.perm (h : Cln m f k C D) (hz : ∀ c, f ≤ c → c < m → C c k = 0) : ∀ c, f ≤ c → c < m → ∃ e, f ≤ e ∧ e < m ∧ D c = C e := by
  refine (h (fun E => (∀ c, f ≤ c → c < m → ∃ e, f ≤ e ∧ e < m ∧ E c = C e) ∧ ∀ c, f ≤ c → c < m → E c k = 0) (fun E b b1 b2 i => ⟨fun c c1 c2 => ?_, fun c c1 c2 => ?_⟩) (fun E h0 _ i => ?_) ⟨fun c c1 c2 => ⟨c, c1, c2, rfl⟩, hz⟩).1
  · obtain ⟨e, e1, e2, e3⟩ := swp_perm (C := E) b1 b2 c1 c2
    rw [e3]
    exact i.1 e e1 e2
  · obtain ⟨e, e1, e2, e3⟩ := swp_perm (C := E) b1 b2 c1 c2
    rw [e3]
    exact i.2 e e1 e2
  · by_cases hf : f < m
    · exact absurd (i.2 f (Nat.le_refl _) hf) h0
    · exact ⟨fun c c1 c2 => by omega, fun c c1 c2 => by omega⟩
def gG (X : Int) : Nat → Int
  | 0 => X
  | p + 1 => 2 * gG X p * gG X p
def gH (X : Int) : Nat → Int
  | 0 => 1
  | 1 => X
  | p + 2 => 2 * gG X (p + 1) * gH X (p + 1)
theorem gG_pos {X : Int} (hX : 1 ≤ X) : ∀ p, 1 ≤ gG X p
  | 0 => hX
  | p + 1 => by
    have h := gG_pos hX p
    show 1 ≤ 2 * gG X p * gG X p
    have h2 : gG X p * 1 ≤ gG X p * gG X p := Int.mul_le_mul_of_nonneg_left h (by omega)
    rw [Int.mul_assoc]
    omega
theorem gG_up {X : Int} (hX : 1 ≤ X) (p : Nat) : gG X p ≤ gG X (p + 1) := by
  have h := gG_pos hX p
  show _ ≤ 2 * gG X p * gG X p
  have h2 : gG X p * 1 ≤ gG X p * gG X p := Int.mul_le_mul_of_nonneg_left h (by omega)
  rw [Int.mul_assoc]
  omega
theorem gG_mono {X : Int} (hX : 1 ≤ X) {p : Nat} : ∀ q, gG X p ≤ gG X (p + q)
  | 0 => Int.le_refl _
  | q + 1 => Int.le_trans (gG_mono hX q) (gG_up hX (p + q))
theorem gH_pos {X : Int} (hX : 1 ≤ X) : ∀ p, 1 ≤ gH X p
  | 0 => by show (1 : Int) ≤ 1; omega
  | 1 => hX
  | p + 2 => by
    have h := gH_pos hX (p + 1)
    have g := gG_pos hX (p + 1)
    show 1 ≤ 2 * gG X (p + 1) * gH X (p + 1)
    have h2 : gG X (p + 1) * 1 ≤ gG X (p + 1) * gH X (p + 1) := Int.mul_le_mul_of_nonneg_left h (by omega)
    rw [Int.mul_assoc]
    omega
theorem gH_up {X : Int} (hX : 1 ≤ X) : ∀ p, gH X p ≤ gH X (p + 1)
  | 0 => hX
  | p + 1 => by
    have h := gH_pos hX (p + 1)
    have g := gG_pos hX (p + 1)
    show _ ≤ 2 * gG X (p + 1) * gH X (p + 1)
    have h2 : 1 * gH X (p + 1) ≤ gG X (p + 1) * gH X (p + 1) := Int.mul_le_mul_of_nonneg_right g (by omega)
    rw [Int.mul_assoc]
    omega
theorem gH_mono {X : Int} (hX : 1 ≤ X) {p : Nat} : ∀ q, gH X p ≤ gH X (p + q)
  | 0 => Int.le_refl _
  | q + 1 => Int.le_trans (gH_mono hX q) (gH_up hX (p + q))
/-- the columns behind f, when the numbers ahead of k are cleared -/
def Gro (X : Int) (m lo hi : Nat) (T : Nat → Prop) (k f : Nat) (C : Nat → Nat → Int) : Prop :=
  (f = 0 ∨ (f + lo ≤ k ∧ f + lo ≤ hi)) ∧ (∀ c, f ≤ c → c < m → ∀ j, j < 6 → (j < lo ∨ hi ≤ j) → C c j = 0) ∧ (∀ c, f ≤ c → c < m → ∀ j, j < 6 → Wi (gG X f) (C c j)) ∧ (∀ c, f ≤ c → c < m → ∀ j, T j → Wi (gH X f) (C c j)) ∧ (f = 0 → ∀ c e, c < m → e < m → ∀ i j, i < 6 → T j → Wi X (C c i * C e j - C e i * C c j))
theorem Gro.next {X : Int} {lo hi : Nat} {T : Nat → Prop} {pv : Bool} (hX : 1 ≤ X) (hk : k < 6) (h : Gro X m lo hi T k f C) (hc : Cln m f k C D) (ho : CloT m f k D pv) : Gro X m lo hi T (k + 1) (f + if pv = true then 1 else 0) D := by
  obtain ⟨g1, g2, g3, g4, g5⟩ := h
  rcases ho with ⟨rfl, hz⟩ | ⟨rfl, hf, hp, hz⟩
  · have hp := hc.perm (hc.nz hz)
    rw [if_neg (by decide), Nat.add_zero]
    refine ⟨?_, fun c c1 c2 j hj hr => ?_, fun c c1 c2 j hj => ?_, fun c c1 c2 j hj => ?_, fun h0 c e c2 e2 i j hi hj => ?_⟩
    · rcases g1 with g1 | g1
      · exact Or.inl g1
      · exact Or.inr ⟨by omega, g1.2⟩
    · obtain ⟨e, e1, e2, e3⟩ := hp c c1 c2
      rw [e3]; exact g2 e e1 e2 j hj hr
    · obtain ⟨e, e1, e2, e3⟩ := hp c c1 c2
      rw [e3]; exact g3 e e1 e2 j hj
    · obtain ⟨e, e1, e2, e3⟩ := hp c c1 c2
      rw [e3]; exact g4 e e1 e2 j hj
    · obtain ⟨c', c'1, c'2, c'3⟩ := hp c (by omega) c2
      obtain ⟨e', e'1, e'2, e'3⟩ := hp e (by omega) e2
      rw [c'3, e'3]
      exact g5 h0 c' e' c'2 e'2 i j hi hj
  · rw [if_pos rfl]
    have hin : ¬ (k < lo ∨ hi ≤ k) := fun q => hp ((hc.zero (j := k) (fun c c1 c2 => g2 c c1 c2 k hk q)) f (Nat.le_refl _) hf)
    have P := gG_pos hX f
    have U := gG_up hX f
    refine ⟨Or.inr ?_, fun c c1 c2 j hj hr => ?_, fun c c1 c2 j hj => ?_, fun c c1 c2 j hj => ?_, fun h0 => absurd h0 (by omega)⟩
    · rcases g1 with g1 | g1
      · exact ⟨by omega, by omega⟩
      · exact ⟨by omega, by omega⟩
    · exact hc.zero (fun c c1 c2 => g2 c c1 c2 j hj hr) c (by omega) c2
    · refine (hc.wi (j := j) (B := gG X (f + 1)) (fun c c1 c2 => (g3 c c1 c2 j hj).mono U) (fun c e c1 c2 e1 e2 => ?_)).1 c (by omega) c2
      exact cross_wi (g3 c c1 c2 k hk) (g3 e e1 e2 k hk) (g3 c c1 c2 j hj) (g3 e e1 e2 j hj)
    · have U2 := gH_up hX f
      refine (hc.wi (j := j) (B := gH X (f + 1)) (fun c c1 c2 => (g4 c c1 c2 j hj).mono U2) (fun c e c1 c2 e1 e2 => ?_)).1 c (by omega) c2
      cases f with
      | zero => exact g5 rfl c e c2 e2 k j hk hj
      | succ p => exact cross_wi (g3 c c1 c2 k hk) (g3 e e1 e2 k hk) (g4 c c1 c2 j hj) (g4 e e1 e2 j hj)
theorem r_canMakeG {σ : Mem} {X : Int} {lo hi : Nat} {T : Nat → Prop} {C0 : Nat → Nat → Int} (hX : 1 ≤ X) (hm : m ≤ 20) (hC : Cl σ C0 m) (h31 : σ.1 306 31 = i32 m) (h0 : Gro X m lo hi T 0 0 C0) (hfit : ∀ p, p + 1 ≤ m → p + lo + 1 ≤ hi → gG X p ≤ 2 ^ 62) : ∃ b τ, f_X11_canMake σ = some (b, τ) ∧ FCm σ τ ∧ (b = true → ∃ f C, f ≤ m ∧ τ.1 306 34 = i32 f ∧ Cl τ C m ∧ Gro X m lo hi T 6 f C) := by
  refine r_canMakeT (Bd := Gro X m lo hi T) hm hC h31 (fun k f C hk hf h => ⟨fun c c1 c2 => ?_, fun D pv hc ho => h.next hX hk hc ho⟩) h0
  by_cases hin : k < lo ∨ hi ≤ k
  · rw [h.2.1 c c1 c2 k hk hin]
    exact ⟨by omega, by omega⟩
  · refine (h.2.2.1 c c1 c2 k hk).mono (hfit f (by omega) ?_)
    rcases h.1 with q | q
    · omega
    · omega
end GRO
end
section
/-! the reference's slots: multiplying ends whatever the numbers are -/
section ANY
theorem cnt_inv {S R : Type} {body : S × Int32 → Option ((S × Int32) ⊕ R)} {P : Nat → S → Prop} {Q : R → Prop} {a b : Nat} {s : S} (hab : a ≤ b) (h0 : P a s) (hs : ∀ i s, a ≤ i → i < b → P i s → (∃ s', body (s, i32 i) = some (Sum.inl (s', i32 (i + 1))) ∧ P (i + 1) s') ∨ ∃ x, body (s, i32 i) = some (Sum.inr x) ∧ Q x) (he : ∀ s, P b s → ∃ x, body (s, i32 b) = some (Sum.inr x) ∧ Q x) : ∃ x, loopO body (s, i32 a) = some x ∧ Q x := by
  refine loop_inv (body := body) (fun n z => ∃ i s, a ≤ i ∧ i ≤ b ∧ n = b - i ∧ z = (s, i32 i) ∧ P i s) Q ?_ (b - a) (s, i32 a) ⟨a, s, Nat.le_refl _, hab, rfl, rfl, h0⟩
  rintro n z ⟨i, s, h1, h2, rfl, rfl, hp⟩
  by_cases hi : i = b
  · right
    subst hi
    exact he s hp
  · rcases hs i s h1 (by omega) hp with ⟨s', e, hp'⟩ | ⟨x, e, q⟩
    · exact Or.inl ⟨(s', i32 (i + 1)), b - (i + 1), by omega, e, i + 1, s', by omega, by omega, rfl, rfl, hp'⟩
    · exact Or.inr ⟨x, e, q⟩
variable {σ : Mem} {G : GD}
theorem e_putA {M : Nat → Int} {m : Nat} {v : Int64} {α : Type} {f : Mem → Option α} (h : m < 6) : pL (moreM σ M) 314 (i32 m) v f = f (moreM σ (up M m (v.toInt - M m))) := by
  refine e_putM h ?_
  rw [show M m + (v.toInt - M m) = v.toInt by omega]
  exact (Int64.ofInt_toInt v).symm
def AM (σ τ : Mem) : Prop := ∃ M, τ = moreM σ M
theorem a_pOne157 (h : MG σ G) (hG : GOK G) {s j k m : Nat} {y x : Int64} {t : Int32} {M : Nat → Int} (hs : s < 100) (hj : j < gn G) (hk : k < 6) (hm : m < 6) : ∃ τ, loopO (fun (z24 : Mem × Int32) => l_X11_passesOne_157 (i32 s) y x (i32 k) t (i32 m) z24.1 z24.2) (moreM σ M, i32 (j + 1)) = some τ ∧ AM σ τ := by
  have hn := hG.2.1
  refine cnt_inv (body := fun (z24 : Mem × Int32) => l_X11_passesOne_157 (i32 s) y x (i32 k) t (i32 m) z24.1 z24.2) (P := fun _ τ => AM σ τ) (b := gn G) (by omega) ⟨M, rfl⟩ ?_ ?_
  · rintro q τ h1 h2 ⟨M, rfl⟩
    show (∃ s', l_X11_passesOne_157 (i32 s) y x (i32 k) t (i32 m) (moreM σ M) (i32 q) = _ ∧ _) ∨ ∃ x', l_X11_passesOne_157 (i32 s) y x (i32 k) t (i32 m) (moreM σ M) (i32 q) = _ ∧ _
    unfold l_X11_passesOne_157
    rw [e_n (moreM_MG h), e_bs, if_neg (i_nle (by omega) (by omega)), e_weight (moreM_MG h) (by omega), e_bs]
    by_cases hw : gw G q = 1
    · left
      rw [hw, if_pos i32_1.symm, e_getM hm, e_tail (moreM_MG h) hk (by omega) hm, e_bs, e_of hs (by omega), e_bs, e_putA hm, i32_1, i32_add]
      exact ⟨_, rfl, _, rfl⟩
    · right
      rw [if_neg (i_ne1 hw (by have := (hG.2.2.1 q h2).2; omega))]
      exact ⟨_, rfl, M, rfl⟩
  · rintro τ ⟨M, rfl⟩
    show ∃ x', l_X11_passesOne_157 (i32 s) y x (i32 k) t (i32 m) (moreM σ M) (i32 (gn G)) = _ ∧ _
    unfold l_X11_passesOne_157
    rw [e_n (moreM_MG h), e_bs, if_pos (i_le (Nat.le_refl _) (by omega))]
    exact ⟨_, rfl, M, rfl⟩
theorem a_pOne83 (h : MG σ G) (hG : GOK G) {s j i k : Nat} {y x : Int64} {t : Int32} {M : Nat → Int} (hs : s < 100) (hj : j < gn G) (hi : i < 6) (hk : k < gn G) : ∃ τ, loopO (fun (z13 : Mem × Int32) => l_X11_passesOne_83 (i32 s) (i32 j) (i32 i) y x (i32 k) t z13.1 z13.2) (moreM σ M, i32 (k + 1)) = some τ ∧ AM σ τ := by
  have hn := hG.2.1
  refine cnt_inv (body := fun (z13 : Mem × Int32) => l_X11_passesOne_83 (i32 s) (i32 j) (i32 i) y x (i32 k) t z13.1 z13.2) (P := fun _ τ => AM σ τ) (b := gn G) (by omega) ⟨M, rfl⟩ ?_ ?_
  · rintro m τ h1 h2 ⟨M, rfl⟩
    left
    show ∃ s', l_X11_passesOne_83 (i32 s) (i32 j) (i32 i) y x (i32 k) t (moreM σ M) (i32 m) = _ ∧ _
    unfold l_X11_passesOne_83
    rw [e_n (moreM_MG h), e_bs, if_neg (i_nle h2 (by omega)), e_getM (by omega), e_tail (moreM_MG h) (by omega) hi (by omega), e_bs, e_two, e_bs, e_tail (moreM_MG h) (by omega) (by omega) (by omega), e_bs, e_two, e_bs, e_putA (by omega), e_bd, i32_1, i32_add]
    obtain ⟨τ, e, M', rfl⟩ := a_pOne157 (M := up M m _) h hG (y := y) (x := x) (t := t) hs hj (show k < 6 by omega) (show m < 6 by omega)
    rw [e, e_bs]
    unfold j_X11_passesOne_226
    rw [i32_1, i32_add]
    exact ⟨_, rfl, M', rfl⟩
  · rintro τ ⟨M, rfl⟩
    show ∃ x', l_X11_passesOne_83 (i32 s) (i32 j) (i32 i) y x (i32 k) t (moreM σ M) (i32 (gn G)) = _ ∧ _
    unfold l_X11_passesOne_83
    rw [e_n (moreM_MG h), e_bs, if_pos (i_le (Nat.le_refl _) (by omega))]
    exact ⟨_, rfl, M, rfl⟩
theorem a_passesOne (h : MG σ G) (hG : GOK G) {s j i : Nat} {y : Int64} {M : Nat → Int} (hs : s < 100) (hj : j < gn G) (hi : i < 6) : ∃ τ, f_X11_passesOne (moreM σ M) (i32 s) (i32 j) (i32 i) y = some τ ∧ AM σ τ := by
  have hn := hG.2.1
  unfold f_X11_passesOne
  rw [e_of hs (by omega), e_bs, e_bd, i32_1, i32_add]
  generalize vec (moreM σ M) s j = x
  refine cnt_inv (body := fun (z4 : Mem × Int32) => l_X11_passesOne_13 (i32 s) (i32 j) (i32 i) y x z4.1 z4.2) (P := fun _ τ => AM σ τ) (b := gn G) (by omega) ⟨M, rfl⟩ ?_ ?_
  · rintro k τ h1 h2 ⟨M, rfl⟩
    left
    show ∃ s', l_X11_passesOne_13 (i32 s) (i32 j) (i32 i) y x (moreM σ M) (i32 k) = _ ∧ _
    unfold l_X11_passesOne_13
    rw [e_n (moreM_MG h), e_bs, if_neg (i_nle h2 (by omega)), e_tail (moreM_MG h) (by omega) hi (by omega), e_bs]
    split
    · rw [e_bs]
      unfold j_X11_passesOne_232
      rw [i32_1, i32_add]
      exact ⟨_, rfl, M, rfl⟩
    · rw [e_getM (by omega), e_putA (by omega), e_weight (moreM_MG h) (by omega), e_bs]
      split
      · rw [e_bd, i32_1, i32_add]
        obtain ⟨τ, e, M', rfl⟩ := a_pOne83 (M := up M k _) h hG (y := y) (x := x) (t := i32 (gt G j i k)) hs hj hi h2
        rw [e, e_bs]
        unfold j_X11_passesOne_232
        rw [i32_1, i32_add]
        exact ⟨_, rfl, M', rfl⟩
      · rw [e_bs]
        unfold j_X11_passesOne_232
        rw [i32_1, i32_add]
        exact ⟨_, rfl, _, rfl⟩
  · rintro τ ⟨M, rfl⟩
    show ∃ x', l_X11_passesOne_13 (i32 s) (i32 j) (i32 i) y x (moreM σ M) (i32 (gn G)) = _ ∧ _
    unfold l_X11_passesOne_13
    rw [e_n (moreM_MG h), e_bs, if_pos (i_le (Nat.le_refl _) (by omega))]
    exact ⟨_, rfl, M, rfl⟩
theorem a_tl91 (h : MG σ G) (hG : GOK G) {s i : Nat} {y : Int64} (hs : s < 100) (hi : i < gn G) (h0 : M0 σ) : ∃ τ, loopO (fun (z16 : Mem × Int32) => l_X11_timesLetter_91 (i32 s) (i32 i) y z16.1 z16.2) (σ, i32 (i + 1)) = some τ ∧ AM σ τ := by
  have hn := hG.2.1
  refine cnt_inv (body := fun (z16 : Mem × Int32) => l_X11_timesLetter_91 (i32 s) (i32 i) y z16.1 z16.2) (P := fun _ τ => AM σ τ) (b := gn G) (by omega) ⟨_, h0.more.symm⟩ ?_ ?_
  · rintro j τ h1 h2 ⟨M, rfl⟩
    show (∃ s', l_X11_timesLetter_91 (i32 s) (i32 i) y (moreM σ M) (i32 j) = _ ∧ _) ∨ ∃ x', l_X11_timesLetter_91 (i32 s) (i32 i) y (moreM σ M) (i32 j) = _ ∧ _
    unfold l_X11_timesLetter_91
    rw [e_n (moreM_MG h), e_bs, if_neg (i_nle (by omega) (by omega)), e_weight (moreM_MG h) (by omega), e_bs]
    by_cases hw : gw G j = 1
    · left
      obtain ⟨τ, e, M', rfl⟩ := a_passesOne (M := M) h hG (y := y) hs h2 (show i < 6 by omega)
      rw [hw, if_pos i32_1.symm, e, e_bs, i32_1, i32_add]
      exact ⟨_, rfl, M', rfl⟩
    · right
      rw [if_neg (i_ne1 hw (by have := (hG.2.2.1 j h2).2; omega))]
      exact ⟨_, rfl, M, rfl⟩
  · rintro τ ⟨M, rfl⟩
    show ∃ x', l_X11_timesLetter_91 (i32 s) (i32 i) y (moreM σ M) (i32 (gn G)) = _ ∧ _
    unfold l_X11_timesLetter_91
    rw [e_n (moreM_MG h), e_bs, if_pos (i_le (Nat.le_refl _) (by omega))]
    exact ⟨_, rfl, M, rfl⟩
theorem a_timesLetter (h : MG σ G) (hG : GOK G) {a : Nat → Int} {s i : Nat} {y : Int} (hs : s < 100) (hi : i < gn G) (hv : ∀ i, i < 6 → vec σ s i = oi (a i)) (h0 : M0 σ) : ∃ c, f_X11_timesLetter σ (i32 s) (i32 i) (oi y) = some (setI σ s c) := by
  have hn := hG.2.1
  unfold f_X11_timesLetter
  by_cases hy0 : oi y = 0
  · exact ⟨a, by rw [if_pos hy0, setI_id hv]⟩
  · rw [if_neg hy0, e_weight h (by omega), e_bs]
    have hw3 := (hG.2.2.1 i hi).2
    have last : ∀ (τ : Mem) (c : Nat → Int), (∀ i, i < 6 → vec τ s i = oi (c i)) → j_X11_timesLetter_171 (i32 s) (i32 i) (oi y) τ = some (setI τ s (fun m => c m + if m = i then y else 0)) := by
      intro τ c hc
      unfold j_X11_timesLetter_171
      rw [e_of hs (by omega), e_bs, hc i (by omega), oi_add, e_puts hs (by omega), e_bs]
      congr 1
      unfold setI
      refine setV_congr (fun m hm => ?_)
      unfold upv
      dsimp only
      by_cases h1 : m = i
      · rw [if_pos h1, if_pos h1, h1]
      · rw [if_neg h1, if_neg h1, hc m hm, Int.add_zero]
    by_cases hw : gw G i = 1
    · obtain ⟨τ, e, M, rfl⟩ := a_tl91 (σ := setI σ s (tlTwo G a i y)) (setI_MG h) hG (y := oi y) hs hi h0.setI
      rw [hw, if_pos i32_1.symm, e_bd, i32_1, i32_add, e_tl21 h hG hs hi hv, e_bs]
      unfold j_X11_timesLetter_77
      rw [e_weight (setI_MG h) (by omega), e_bs, hw, if_pos i32_1.symm, e_bd, i32_1, i32_add, e, e_bs]
      unfold j_X11_timesLetter_125
      rw [e_tl128 hs (fun i hi => setI_vec hi) h0.setI, e_bs, setI_setI, last _ _ (fun i hi => setI_vec hi), setI_setI]
      exact ⟨_, rfl⟩
    · rw [if_neg (i_ne1 hw (by omega)), e_bs]
      unfold j_X11_timesLetter_77
      rw [e_weight h (by omega), e_bs, if_neg (i_ne1 hw (by omega)), e_bs, last _ _ hv]
      exact ⟨_, rfl⟩
theorem a_times (h : MG σ G) (hG : GOK G) (h0 : M0 σ) {f : SF} {s r : Nat} (hs : s < 100) (hr : r < 100) (hne : r ≠ s) : ∃ c, f_X11_times (PS σ f) (i32 s) (i32 r) = some (PS σ (uS f s c)) := by
  have hn := hG.2.1
  unfold f_X11_times
  obtain ⟨x, e, c, rfl⟩ := cnt_inv (body := fun (z2 : Mem × Int32) => l_X11_times_2 (i32 s) (i32 r) z2.1 z2.2) (P := fun _ τ => ∃ c, τ = PS σ (uS f s c)) (Q := fun τ => ∃ c, τ = PS σ (uS f s c)) (a := 0) (b := gn G) (s := PS σ f) (Nat.zero_le _) ⟨f s, by
    congr 1
    funext q
    unfold uS
    by_cases hq : q = s
    · rw [if_pos hq, hq]
    · rw [if_neg hq]⟩ (by
    rintro k τ _ h2 ⟨c, rfl⟩
    left
    show ∃ s', l_X11_times_2 (i32 s) (i32 r) (PS σ (uS f s c)) (i32 k) = _ ∧ _
    unfold l_X11_times_2
    obtain ⟨c', e⟩ := a_timesLetter (σ := PS σ (uS f s c)) (a := c) (s := s) (i := k) (y := f r k) (PS_MG h) hG hs h2 (fun i hi => by rw [PS_vec hs hi, uS_self]) (PS_M0 h0)
    rw [e_n (PS_MG h), e_bs, if_neg (i_nle h2 (by omega)), p_of hr (by omega), e_bs, uS_ne hne, e, e_bs, i32_1, i32_add, PS_setI hs]
    refine ⟨_, rfl, c', ?_⟩
    congr 1
    funext q
    unfold uS
    by_cases hq : q = s
    · rw [if_pos hq, if_pos hq]
    · rw [if_neg hq, if_neg hq, if_neg hq]) (by
    rintro τ ⟨c, rfl⟩
    show ∃ x', l_X11_times_2 (i32 s) (i32 r) (PS σ (uS f s c)) (i32 (gn G)) = _ ∧ _
    unfold l_X11_times_2
    rw [e_n (PS_MG h), e_bs, if_pos (i_le (Nat.le_refl _) (by omega))]
    exact ⟨_, rfl, c, rfl⟩)
  exact ⟨c, e⟩
theorem a_inverse (h : MG σ G) (hG : GOK G) (h0 : M0 σ) {f : SF} {s t : Nat} (hs : s < 100) (ht : t + 1 < 100) (hne : s ≠ t) (hne2 : s ≠ t + 1) : ∃ f', f_X11_inverse (PS σ f) (i32 s) (i32 t) = some (PS σ f') ∧ ∀ q, q ≠ t → q ≠ t + 1 → f' q = f q := by
  have hn := hG.2.1
  unfold f_X11_inverse
  rw [p_ones (by omega), e_bs]
  obtain ⟨x, e, f', rfl, hf⟩ := cnt_inv (body := fun (z3 : Mem × Int32) => l_X11_inverse_7 (i32 s) (i32 t) z3.1 z3.2) (P := fun _ τ => ∃ f', τ = PS σ f' ∧ ∀ q, q ≠ t → q ≠ t + 1 → f' q = f q) (Q := fun τ => ∃ f', τ = PS σ f' ∧ ∀ q, q ≠ t → q ≠ t + 1 → f' q = f q) (a := 0) (b := gn G) (s := PS σ (uS f t (fun _ => 0))) (Nat.zero_le _) ⟨_, rfl, fun q hq _ => uS_ne hq⟩ (by
    rintro k τ _ h2 ⟨f', rfl, hf⟩
    left
    show ∃ s', l_X11_inverse_7 (i32 s) (i32 t) (PS σ f') (i32 k) = _ ∧ _
    unfold l_X11_inverse_7
    obtain ⟨c, e⟩ := a_times (σ := σ) (f := uS f' (t + 1) (f' s)) (s := t + 1) (r := t) h hG h0 (by omega) (by omega) (by omega)
    rw [e_n (PS_MG h), e_bs, if_neg (i_nle h2 (by omega)), i32_1, i32_add, p_copies hs (by omega) hne2, e_bs, e, e_bs, p_of (by omega) (by omega), e_bs, oi_neg, p_puts (by omega) (by omega), e_bs, i32_add]
    exact ⟨_, rfl, _, rfl, fun q q1 q2 => by rw [uS_ne q1, uS_ne q2, uS_ne q2, hf q q1 q2]⟩) (by
    rintro τ ⟨f', rfl, hf⟩
    show ∃ x', l_X11_inverse_7 (i32 s) (i32 t) (PS σ f') (i32 (gn G)) = _ ∧ _
    unfold l_X11_inverse_7
    rw [e_n (PS_MG h), e_bs, if_pos (i_le (Nat.le_refl _) (by omega))]
    exact ⟨_, rfl, f', rfl, hf⟩)
  exact ⟨f', e, hf⟩
theorem a_conjugates (h : MG σ G) (hG : GOK G) (h0 : M0 σ) {f : SF} {s r t : Nat} (hs : s < 100) (hr : r < 100) (ht : t + 1 < 100) (hst : s < t ∨ t + 1 < s) (hrt : r < t ∨ t + 1 < r) : ∃ f', f_X11_conjugates (PS σ f) (i32 s) (i32 r) (i32 t) = some (PS σ f') ∧ ∀ q, q < t ∨ t + 1 < q → f' q = f q := by
  unfold f_X11_conjugates
  obtain ⟨f1, e1, k1⟩ := a_inverse (f := f) h hG h0 hr (t := t) (by omega) (by omega) (by omega)
  obtain ⟨c2, e2⟩ := a_times (f := f1) h hG h0 (s := t) (r := s) (by omega) (by omega) (by omega)
  obtain ⟨c3, e3⟩ := a_times (f := uS f1 t c2) h hG h0 (s := t) (r := r) (by omega) (by omega) (by omega)
  rw [e1, e_bs, e2, e_bs, e3, e_bs]
  exact ⟨_, rfl, fun q hq => by rw [uS_ne (by omega), uS_ne (by omega), k1 q (by omega) (by omega)]⟩
end ANY
end
section
/-! a commutator is a difference; how great it is -/
section COB
variable {G : GD}
def cmm (G : GD) (a b : Nat → Int) : Nat → Int := mul G (mul G (mul G (inv G a) (inv G b)) a) b
theorem cmm_one (hG : GOK G) {a b : Nat → Int} {m : Nat} (hm : gw G m ≤ 1) (h : m < gn G) : cmm G a b m = 0 := by
  unfold cmm
  rw [mul_one hG hm h, mul_one hG hm h, mul_one hG hm h, inv_one hG hm h, inv_one hG hm h]
  omega
theorem mul_high (hG : GOK G) {x c : Nat → Int} (hc : ∀ i, i < gn G → gw G i ≤ 1 → c i = 0) {m : Nat} (hm : m < gn G) : mul G x c m = x m + c m := by
  have hw := hG.2.2.1
  have z1 : pT G m x c = 0 := sm_zero (fun i hi => sm_zero (fun j hj => by
    by_cases h1 : gw G i ≤ 1
    · rw [hc i hi h1, Int.mul_zero]
    · by_cases h2 : tI G j i m = 0
      · rw [h2, Int.zero_mul, Int.zero_mul]
      · have a1 := tI_ne hG h2
        have a2 := hG.2.2.2.1 i j (by omega) hj
        have a3 := (hw m hm).2
        omega))
  have dz : ∀ j i q, ¬ gw G i ≤ 1 → DD G m j i q = 0 := fun j i q h => DD_0 hG (by omega)
  have z2 : pU G m x c = 0 := sm_zero (fun i hi => sm_zero (fun j hj => by
    by_cases h1 : gw G i ≤ 1
    · rw [hc i hi h1, two_0, Int.mul_zero]
    · rw [dz j i i h1, Int.zero_mul, Int.zero_mul]))
  have z3 : pV G m x c = 0 := sm_zero (fun i hi => sm_zero (fun j hj => by
    by_cases h1 : gw G i ≤ 1
    · rw [hc i hi h1, Int.mul_zero, Int.zero_mul]
    · rw [dz j i j h1, Int.zero_mul, Int.zero_mul]))
  have z4 : pW G m x c = 0 := sm_zero (fun i hi => sm_zero (fun j hj => sm_zero (fun q hq => by
    by_cases h2 : j < q
    · rw [if_pos h2]
      by_cases h1 : gw G i ≤ 1
      · rw [hc i hi h1, Int.mul_zero]
      · rw [dz j i q h1, Int.zero_mul, Int.zero_mul, Int.zero_mul]
    · rw [if_neg h2])))
  have z5 : pX G m x c = 0 := sm_zero (fun i hi => sm_zero (fun p hp => by
    by_cases h2 : p < i
    · rw [if_pos h2]
      refine sm_zero (fun j hj => ?_)
      by_cases h1 : gw G p ≤ 1
      · rw [hc p hp h1, Int.mul_zero, Int.zero_mul]
      · rw [dz j p i h1, Int.zero_mul, Int.zero_mul, Int.zero_mul]
    · rw [if_neg h2]))
  rw [mul_eq hG hm, z1, z2, z3, z4, z5]
  omega
theorem cmm_eq (hG : GOK G) (hJ : Jac G) {a b : Nat → Int} {m : Nat} (hm : m < gn G) : cmm G a b m = mul G a b m - mul G b a m := by
  have e : EqG G (mul G (mul G b a) (cmm G a b)) (mul G a b) := by
    refine (EqG.refl.times (comm_eq hG hJ).symm).trans ?_
    refine (massoc hG hJ).symm.trans ?_
    exact ((mul_inv hG).times EqG.refl).trans (O_mul hG)
  have h := e m hm
  rw [mul_high hG (fun i hi h1 => cmm_one hG h1 hi) hm] at h
  omega
def smN (f : Nat → Nat) : Nat → Nat
  | 0 => 0
  | n + 1 => smN f n + f n
theorem sm_ab {f : Nat → Int} {g : Nat → Nat} : ∀ n, (∀ k, k < n → (f k).natAbs ≤ g k) → (sm f n).natAbs ≤ smN g n
  | 0, _ => Nat.le_refl _
  | n + 1, h => by
    have h1 := sm_ab n (fun k hk => h k (by omega))
    have h2 := h n (Nat.lt_succ_self n)
    show (sm f n + f n).natAbs ≤ smN g n + g n
    have := Int.natAbs_add_le (sm f n) (f n)
    omega
def twN (x : Nat) : Nat := x * (x + 1) / 2
theorem two_ab {y : Int} {x : Nat} (h : y.natAbs ≤ x) : (two y).natAbs ≤ twN x := by
  have h1 : y * (y - 1) = 2 * two y := by
    unfold two
    have : (2 : Int) ∣ y * (y - 1) := by
      rcases Int.emod_two_eq y with q | q
      · exact Int.dvd_trans (Int.dvd_of_emod_eq_zero q) (Int.dvd_mul_right _ _)
      · exact Int.dvd_trans (Int.dvd_of_emod_eq_zero (show (y - 1) % 2 = 0 by omega)) (Int.dvd_mul_left _ _)
    omega
  have h2 : (y * (y - 1)).natAbs ≤ x * (x + 1) := by
    rw [Int.natAbs_mul]
    exact Nat.mul_le_mul h (by omega)
  unfold twN
  omega
def tbN (w : Nat → Nat) (m i j : Nat) : Nat := bif Nat.blt i j && (Nat.blt j m && Nat.ble (w i + w j) (w m)) then 3 else 0
def dbN (w : Nat → Nat) (n m j i q : Nat) : Nat := bif Nat.blt i j && (Nat.beq (w i) 1 && (Nat.beq (w j) 1 && (Nat.beq (w q) 1 && Nat.beq (w m) 3))) then smN (fun k => bif Nat.blt j k && (Nat.blt k m && (Nat.beq (w k) 2 && Nat.blt q k)) then 9 else 0) n else 0
variable {w : Nat → Nat}
theorem tIN_ab (hG : GOK G) (hw : ∀ i, i < gn G → gw G i = w i) {m i j : Nat} (hm : m < gn G) : (tI G j i m).natAbs ≤ tbN w m i j := by
  by_cases h : tI G j i m = 0
  · rw [h]
    exact Nat.zero_le _
  · have a := tI_ne hG h
    have b := hG.2.2.2.2.2.1 j i m
    rw [hw i (by omega), hw j (by omega), hw m hm] at a
    unfold tbN
    rw [show (Nat.blt i j && (Nat.blt j m && Nat.ble (w i + w j) (w m))) = true from by
      rw [Bool.and_eq_true, Bool.and_eq_true, Nat.blt_eq, Nat.blt_eq, Nat.ble_eq]
      exact ⟨a.1, a.2.1, a.2.2.2⟩]
    show (tI G j i m).natAbs ≤ 3
    show ((gt G j i m : Int)).natAbs ≤ 3
    omega
theorem DDN_ab (hG : GOK G) (hw : ∀ i, i < gn G → gw G i = w i) {m j i q : Nat} (hm : m < gn G) (hq : q < gn G) : (DD G m j i q).natAbs ≤ dbN w (gn G) m j i q := by
  by_cases h : i < j ∧ gw G i = 1 ∧ gw G j = 1 ∧ gw G q = 1 ∧ gw G m = 3 ∧ j < gn G
  · unfold dbN
    obtain ⟨h1, h2, h3, h4, h5, h6⟩ := h
    rw [show (Nat.blt i j && (Nat.beq (w i) 1 && (Nat.beq (w j) 1 && (Nat.beq (w q) 1 && Nat.beq (w m) 3)))) = true from by
      rw [Bool.and_eq_true, Bool.and_eq_true, Bool.and_eq_true, Bool.and_eq_true, Nat.blt_eq, Nat.beq_eq, Nat.beq_eq, Nat.beq_eq, Nat.beq_eq, ← hw i (by omega), ← hw j h6, ← hw q hq, ← hw m hm]
      exact ⟨h1, h2, h3, h4, h5⟩]
    show (DD G m j i q).natAbs ≤ smN _ (gn G)
    unfold DD
    refine sm_ab _ (fun k hk => ?_)
    by_cases t1 : tI G j i k = 0
    · rw [t1, Int.zero_mul]; exact Nat.zero_le _
    · by_cases t2 : tI G k q m = 0
      · rw [t2, Int.mul_zero]; exact Nat.zero_le _
      · have a1 := tI_ne hG t1
        have a2 := tI_ne hG t2
        have b1 := hG.2.2.2.2.2.1 j i k
        have b2 := hG.2.2.2.2.2.1 k q m
        rw [show (Nat.blt j k && (Nat.blt k m && (Nat.beq (w k) 2 && Nat.blt q k))) = true from by
          rw [Bool.and_eq_true, Bool.and_eq_true, Bool.and_eq_true, Nat.blt_eq, Nat.blt_eq, Nat.beq_eq, Nat.blt_eq, ← hw k hk]
          exact ⟨by omega, by omega, by omega, by omega⟩]
        show (tI G j i k * tI G k q m).natAbs ≤ 9
        rw [Int.natAbs_mul]
        have c1 : (tI G j i k).natAbs ≤ 3 := by show ((gt G j i k : Int)).natAbs ≤ 3; omega
        have c2 : (tI G k q m).natAbs ≤ 3 := by show ((gt G k q m : Int)).natAbs ≤ 3; omega
        exact Nat.mul_le_mul c1 c2
  · rw [DD_0 hG h]
    exact Nat.zero_le _
def hfN (w : Nat → Nat) (n m : Nat) (x y : Nat → Nat) : Nat :=
  smN (fun i => smN (fun j => tbN w m i j * x j * y i) n) n + smN (fun i => smN (fun j => dbN w n m j i i * x j * twN (y i)) n) n + smN (fun i => smN (fun j => dbN w n m j i j * y i * twN (x j)) n) n + smN (fun i => smN (fun j => smN (fun q => bif Nat.blt j q then dbN w n m j i q * x j * x q * y i else 0) n) n) n + smN (fun i => smN (fun p => bif Nat.blt p i then smN (fun j => dbN w n m j p i * x j * y p * y i) n else 0) n) n
def cbN (w : Nat → Nat) (n m : Nat) (a b : Nat → Nat) : Nat := hfN w n m a b + hfN w n m b a
theorem nmul {a b : Int} {x y : Nat} (h : a.natAbs ≤ x) (k : a ≠ 0 → b.natAbs ≤ y) : (a * b).natAbs ≤ x * y := by
  by_cases h0 : a = 0
  · rw [h0, Int.zero_mul]
    exact Nat.zero_le _
  · rw [Int.natAbs_mul]
    exact Nat.mul_le_mul h (k h0)
theorem nz_l {a b : Int} (h : a * b ≠ 0) : a ≠ 0 := fun q => h (by rw [q, Int.zero_mul])
theorem DD_ne (hG : GOK G) {m j i q : Nat} (h : DD G m j i q ≠ 0) : gw G i ≤ 2 ∧ gw G j ≤ 2 ∧ gw G q ≤ 2 := by
  have a : i < j ∧ gw G i = 1 ∧ gw G j = 1 ∧ gw G q = 1 ∧ gw G m = 3 ∧ j < gn G := Classical.byContradiction (fun q => h (DD_0 hG q))
  omega
theorem hf_ab (hG : GOK G) (hw : ∀ i, i < gn G → gw G i = w i) {m : Nat} (hm : m < gn G) {a b : Nat → Int} {x y : Nat → Nat} (ha : ∀ i, i < gn G → gw G i ≤ 2 → (a i).natAbs ≤ x i) (hb : ∀ i, i < gn G → gw G i ≤ 2 → (b i).natAbs ≤ y i) : (pT G m a b + pU G m a b + pV G m a b + pW G m a b + pX G m a b).natAbs ≤ hfN w (gn G) m x y := by
  have tz : ∀ i j, tI G j i m ≠ 0 → gw G i ≤ 2 ∧ gw G j ≤ 2 := fun i j h => by
    have a1 := tI_ne hG h
    have w1 := (hG.2.2.1 i (by omega)).1
    have w2 := (hG.2.2.1 j (by omega)).1
    have w3 := (hG.2.2.1 m hm).2
    omega
  have e1 : (pT G m a b).natAbs ≤ smN (fun i => smN (fun j => tbN w m i j * x j * y i) (gn G)) (gn G) := sm_ab _ (fun i hi => sm_ab _ (fun j hj => nmul (nmul (tIN_ab hG hw hm) (fun z => ha j hj (tz i j z).2)) (fun z => hb i hi (tz i j (nz_l z)).1)))
  have e2 : (pU G m a b).natAbs ≤ smN (fun i => smN (fun j => dbN w (gn G) m j i i * x j * twN (y i)) (gn G)) (gn G) := sm_ab _ (fun i hi => sm_ab _ (fun j hj => nmul (nmul (DDN_ab hG hw hm hi) (fun z => ha j hj (DD_ne hG z).2.1)) (fun z => two_ab (hb i hi (DD_ne hG (nz_l z)).1))))
  have e3 : (pV G m a b).natAbs ≤ smN (fun i => smN (fun j => dbN w (gn G) m j i j * y i * twN (x j)) (gn G)) (gn G) := sm_ab _ (fun i hi => sm_ab _ (fun j hj => nmul (nmul (DDN_ab hG hw hm hj) (fun z => hb i hi (DD_ne hG z).1)) (fun z => two_ab (ha j hj (DD_ne hG (nz_l z)).2.1))))
  have e4 : (pW G m a b).natAbs ≤ smN (fun i => smN (fun j => smN (fun q => bif Nat.blt j q then dbN w (gn G) m j i q * x j * x q * y i else 0) (gn G)) (gn G)) (gn G) := sm_ab _ (fun i hi => sm_ab _ (fun j hj => sm_ab _ (fun q hq => by
    by_cases h : j < q
    · rw [if_pos h, show Nat.blt j q = true from by rw [Nat.blt_eq]; exact h]
      exact nmul (nmul (nmul (DDN_ab hG hw hm hq) (fun z => ha j hj (DD_ne hG z).2.1)) (fun z => ha q hq (DD_ne hG (nz_l z)).2.2)) (fun z => hb i hi (DD_ne hG (nz_l (nz_l z))).1)
    · rw [if_neg h]; exact Nat.zero_le _)))
  have e5 : (pX G m a b).natAbs ≤ smN (fun i => smN (fun p => bif Nat.blt p i then smN (fun j => dbN w (gn G) m j p i * x j * y p * y i) (gn G) else 0) (gn G)) (gn G) := sm_ab _ (fun i hi => sm_ab _ (fun p hp => by
    by_cases h : p < i
    · rw [if_pos h, show Nat.blt p i = true from by rw [Nat.blt_eq]; exact h]
      exact sm_ab _ (fun j hj => nmul (nmul (nmul (DDN_ab hG hw hm hi) (fun z => ha j hj (DD_ne hG z).2.1)) (fun z => hb p hp (DD_ne hG (nz_l z)).1)) (fun z => hb i hi (DD_ne hG (nz_l (nz_l z))).2.2))
    · rw [if_neg h]; exact Nat.zero_le _))
  unfold hfN
  have f1 := Int.natAbs_add_le (pT G m a b) (pU G m a b)
  have f2 := Int.natAbs_add_le (pT G m a b + pU G m a b) (pV G m a b)
  have f3 := Int.natAbs_add_le (pT G m a b + pU G m a b + pV G m a b) (pW G m a b)
  have f4 := Int.natAbs_add_le (pT G m a b + pU G m a b + pV G m a b + pW G m a b) (pX G m a b)
  omega
theorem cmm_ab (hG : GOK G) (hJ : Jac G) (hw : ∀ i, i < gn G → gw G i = w i) {m : Nat} (hm : m < gn G) {a b : Nat → Int} {x y : Nat → Nat} (ha : ∀ i, i < gn G → gw G i ≤ 2 → (a i).natAbs ≤ x i) (hb : ∀ i, i < gn G → gw G i ≤ 2 → (b i).natAbs ≤ y i) : (cmm G a b m).natAbs ≤ cbN w (gn G) m x y := by
  have h1 := hf_ab hG hw hm ha hb
  have h2 := hf_ab hG hw hm hb ha
  rw [cmm_eq hG hJ hm, mul_eq hG hm, mul_eq hG hm]
  unfold cbN
  omega
end COB
end
section
/-! shapes of groups: so many letters of weight 1, of weight 2, in all; the bounds fit for each -/
section SHP
def wS (m t : Nat) (i : Nat) : Nat := bif Nat.blt i m then 1 else bif Nat.blt i (m + t) then 2 else 3
def mxN (f : Nat → Nat) : Nat → Nat
  | 0 => 0
  | n + 1 => max (mxN f n) (f n)
theorem mxN_le {f : Nat → Nat} : ∀ n k, k < n → f k ≤ mxN f n
  | 0, k, h => absurd h (Nat.not_lt_zero k)
  | n + 1, k, h => by
    show f k ≤ max (mxN f n) (f n)
    by_cases hk : k = n
    · rw [hk]; exact Nat.le_max_right _ _
    · exact Nat.le_trans (mxN_le n k (by omega)) (Nat.le_max_left _ _)
def allN (f : Nat → Bool) : Nat → Bool
  | 0 => true
  | n + 1 => allN f n && f n
theorem allN_at {f : Nat → Bool} : ∀ n, allN f n = true → ∀ k, k < n → f k = true
  | 0, _, k, h => absurd h (Nat.not_lt_zero k)
  | n + 1, h, k, hk => by
    have h2 : (allN f n && f n) = true := h
    rw [Bool.and_eq_true] at h2
    by_cases e : k = n
    · rw [e]; exact h2.2
    · exact allN_at n h2.1 k (by omega)
def frcN (x : Nat) (f : Nat → Bool) : Bool := Nat.rec (motive := fun _ => Bool) (f 0) (fun k _ => f (Nat.succ k)) x
theorem frcN_eq {x : Nat} {f : Nat → Bool} : frcN x f = f x := by cases x <;> rfl
def u1 (i : Nat) : Nat → Nat := fun k => bif Nat.beq k i then 1 else 0
def c30 : Nat → Nat := fun _ => 30
def XN (m t n : Nat) : Nat := max 1 (mxN (fun i => mxN (fun k => bif Nat.beq (wS m t i) 1 && Nat.beq (wS m t k) 2 then cbN (wS m t) n k c30 (u1 i) else 0) n) n)
def hq (m t h : Nat) : Nat → Nat := fun i => bif Nat.beq (wS m t i) 1 then h else 0
def QN (m t n h : Nat) : Nat := max 1 (max (mxN (fun k => bif Nat.beq (wS m t k) 3 then cbN (wS m t) n k c30 (hq m t h) else 0) n) (mxN (fun i => mxN (fun k => bif Nat.beq (wS m t i) 2 && Nat.beq (wS m t k) 3 then cbN (wS m t) n k c30 (u1 i) else 0) n) n))
def gGN (X : Nat) : Nat → Nat
  | 0 => X
  | p + 1 => 2 * gGN X p * gGN X p
def gHN (X : Nat) : Nat → Nat
  | 0 => 1
  | 1 => X
  | p + 2 => 2 * gGN X (p + 1) * gHN X (p + 1)
theorem gGN_c {X : Nat} : ∀ p, (gGN X p : Int) = gG (X : Int) p
  | 0 => rfl
  | p + 1 => by
    show ((2 * gGN X p * gGN X p : Nat) : Int) = 2 * gG X p * gG X p
    rw [Int.natCast_mul, Int.natCast_mul, gGN_c p]
    rfl
theorem gHN_c {X : Nat} : ∀ p, (gHN X p : Int) = gH (X : Int) p
  | 0 => rfl
  | 1 => rfl
  | p + 2 => by
    show ((2 * gGN X (p + 1) * gHN X (p + 1) : Nat) : Int) = 2 * gG X (p + 1) * gH X (p + 1)
    rw [Int.natCast_mul, Int.natCast_mul, gGN_c (p + 1), gHN_c (p + 1)]
    rfl
def hF (m X f : Nat) : Nat := bif Nat.ble m f then 0 else gHN X f
def rqS (m t n : Nat) : Bool := frcN (XN m t n) (fun X => allN (fun p => Nat.ble (gGN X p) (2 ^ 62)) (min m t) && allN (fun f => Nat.ble (hF m X f) (2 ^ 28) && frcN (QN m t n (hF m X f)) (fun Q => allN (fun p => Nat.ble (gGN Q p) (2 ^ 62)) (min (m - f + t) (n - m - t)))) (min m t + 1))
theorem rqS_all : allN (fun n => allN (fun m => allN (fun t => Nat.blt n (m + t) || rqS m t n) 7) 7) 7 = true := by decide +kernel
theorem rqS_at {m t n : Nat} (hn : n ≤ 6) (h : m + t ≤ n) : rqS m t n = true := by
  have h1 := allN_at 7 rqS_all n (by omega)
  have h2 := allN_at 7 h1 m (by omega)
  have h3 := allN_at 7 h2 t (by omega)
  rw [Bool.or_eq_true, Nat.blt_eq] at h3
  rcases h3 with q | q
  · omega
  · exact q
theorem fit1 {m t n p : Nat} (hn : n ≤ 6) (h : m + t ≤ n) (h1 : p < m) (h2 : p < t) : gG (XN m t n : Nat) p ≤ 2 ^ 62 := by
  have e := rqS_at hn h
  unfold rqS at e
  rw [frcN_eq, Bool.and_eq_true] at e
  have e1 := allN_at _ e.1 p (by omega)
  rw [Nat.ble_eq] at e1
  rw [← gGN_c]
  omega
theorem fit2 {m t n f : Nat} (hn : n ≤ 6) (h : m + t ≤ n) (h1 : f ≤ m) (h2 : f ≤ t) : hF m (XN m t n) f ≤ 2 ^ 28 ∧ ∀ p, p < m - f + t → p < n - m - t → gG (QN m t n (hF m (XN m t n) f) : Nat) p ≤ 2 ^ 62 := by
  have e := rqS_at hn h
  unfold rqS at e
  rw [frcN_eq, Bool.and_eq_true] at e
  have e1 := allN_at _ e.2 f (by omega)
  rw [Bool.and_eq_true, frcN_eq, Nat.ble_eq] at e1
  refine ⟨e1.1, fun p p1 p2 => ?_⟩
  have e2 := allN_at _ e1.2 p (by omega)
  rw [Nat.ble_eq] at e2
  rw [← gGN_c]
  omega
theorem shape_of {G : GD} (hG : GOK G) : ∃ m t, m + t ≤ gn G ∧ ∀ i, i < gn G → gw G i = wS m t i := by
  have cut : ∀ c d b, d = gn G - b → b ≤ gn G → ∃ e, b ≤ e ∧ e ≤ gn G ∧ (∀ q, b ≤ q → q < e → gw G q < c) ∧ ∀ q, e ≤ q → q < gn G → c ≤ gw G q := by
    intro c d
    induction d with
    | zero => exact fun b h1 h2 => ⟨b, Nat.le_refl b, h2, fun q h4 h5 => by omega, fun q h4 h5 => by omega⟩
    | succ d ih =>
      intro b h1 h2
      by_cases hw : gw G b < c
      · obtain ⟨e, e1, e2, e3, e4⟩ := ih (b + 1) (by omega) (by omega)
        refine ⟨e, by omega, e2, fun q h4 h5 => ?_, e4⟩
        by_cases h6 : q = b
        · rw [h6]; exact hw
        · exact e3 q (by omega) h5
      · refine ⟨b, Nat.le_refl b, h2, fun q h4 h5 => by omega, fun q h4 h5 => ?_⟩
        have h8 := hG.2.2.2.1 b q h4 h5
        omega
  obtain ⟨m, _, m2, m3, m4⟩ := cut 2 _ 0 rfl (by omega)
  obtain ⟨e, e1, e2, e3, e4⟩ := cut 3 _ m rfl m2
  refine ⟨m, e - m, by omega, fun i hi => ?_⟩
  have hw := hG.2.2.1 i hi
  unfold wS
  by_cases h1 : i < m
  · rw [show Nat.blt i m = true from by rw [Nat.blt_eq]; exact h1]
    have := m3 i (by omega) h1
    show gw G i = 1
    omega
  · rw [show Nat.blt i m = false from Bool.eq_false_iff.mpr (fun q => h1 (by rw [Nat.blt_eq] at q; exact q))]
    show gw G i = bif Nat.blt i (m + (e - m)) then 2 else 3
    have a := m4 i (by omega) hi
    by_cases h2 : i < e
    · rw [show Nat.blt i (m + (e - m)) = true from by rw [Nat.blt_eq]; omega]
      have := e3 i (by omega) h2
      show gw G i = 2
      omega
    · rw [show Nat.blt i (m + (e - m)) = false from Bool.eq_false_iff.mpr (fun q => by rw [Nat.blt_eq] at q; omega)]
      have := e4 i (by omega) hi
      show gw G i = 3
      omega
theorem wS_1 {m t i : Nat} : wS m t i = 1 ↔ i < m := by
  unfold wS
  by_cases h1 : i < m
  · rw [show Nat.blt i m = true from by rw [Nat.blt_eq]; exact h1]
    exact ⟨fun _ => h1, fun _ => rfl⟩
  · rw [show Nat.blt i m = false from Bool.eq_false_iff.mpr (fun q => h1 (by rw [Nat.blt_eq] at q; exact q))]
    by_cases h2 : i < m + t
    · rw [show Nat.blt i (m + t) = true from by rw [Nat.blt_eq]; exact h2]
      exact ⟨fun q => absurd (show (2 : Nat) = 1 from q) (by decide), fun q => absurd q h1⟩
    · rw [show Nat.blt i (m + t) = false from Bool.eq_false_iff.mpr (fun q => h2 (by rw [Nat.blt_eq] at q; exact q))]
      exact ⟨fun q => absurd (show (3 : Nat) = 1 from q) (by decide), fun q => absurd q h1⟩
theorem wS_2 {m t i : Nat} : wS m t i = 2 ↔ m ≤ i ∧ i < m + t := by
  unfold wS
  by_cases h1 : i < m
  · rw [show Nat.blt i m = true from by rw [Nat.blt_eq]; exact h1]
    exact ⟨fun q => absurd (show (1 : Nat) = 2 from q) (by decide), fun q => by omega⟩
  · rw [show Nat.blt i m = false from Bool.eq_false_iff.mpr (fun q => h1 (by rw [Nat.blt_eq] at q; exact q))]
    by_cases h2 : i < m + t
    · rw [show Nat.blt i (m + t) = true from by rw [Nat.blt_eq]; exact h2]
      exact ⟨fun _ => ⟨by omega, h2⟩, fun _ => rfl⟩
    · rw [show Nat.blt i (m + t) = false from Bool.eq_false_iff.mpr (fun q => h2 (by rw [Nat.blt_eq] at q; exact q))]
      exact ⟨fun q => absurd (show (3 : Nat) = 2 from q) (by decide), fun q => absurd q.2 h2⟩
theorem wS_3 {m t i : Nat} : wS m t i = 3 ↔ m + t ≤ i := by
  unfold wS
  by_cases h1 : i < m
  · rw [show Nat.blt i m = true from by rw [Nat.blt_eq]; exact h1]
    exact ⟨fun q => absurd (show (1 : Nat) = 3 from q) (by decide), fun q => by omega⟩
  · rw [show Nat.blt i m = false from Bool.eq_false_iff.mpr (fun q => h1 (by rw [Nat.blt_eq] at q; exact q))]
    by_cases h2 : i < m + t
    · rw [show Nat.blt i (m + t) = true from by rw [Nat.blt_eq]; exact h2]
      exact ⟨fun q => absurd (show (2 : Nat) = 3 from q) (by decide), fun q => by omega⟩
    · rw [show Nat.blt i (m + t) = false from Bool.eq_false_iff.mpr (fun q => h2 (by rw [Nat.blt_eq] at q; exact q))]
      exact ⟨fun _ => by omega, fun _ => rfl⟩
end SHP
end
section
/-! the reference: a commutator becomes a column -/
section ADS
variable {σ : Mem} {G : GD} {f : SF}
theorem PS_rwL {a : Nat} {g : Nat → Int64} (h : a ≠ 313) : rwL (PS σ f) a g = PS (rwL σ a g) f := by
  unfold rwL PS
  refine congrArg (Prod.mk σ.1) ?_
  funext x y
  show (if x = a then g y else if x = 313 ∧ y < 600 then oi (f (y / 6) (y % 6)) else σ.2 x y) = if x = 313 ∧ y < 600 then oi (f (y / 6) (y % 6)) else if x = a then g y else σ.2 x y
  by_cases h1 : x = a
  · rw [if_pos h1, if_neg (by omega), if_pos h1]
  · rw [if_neg h1, if_neg h1]
theorem PS_wI6 {k : Nat} {v : Int32} : wI (PS σ f) 306 k v = PS (wI σ 306 k v) f := rfl
/-- what the search of alike changes, but for slots -/
def FCa (σ τ : Mem) : Prop := (∀ x, x ≠ 306 → τ.1 x = σ.1 x) ∧ (∀ c, c ≠ 31 → c ≠ 33 → c ≠ 34 → c ≠ 36 → τ.1 306 c = σ.1 306 c) ∧ ∀ x, x ≠ 313 → x ≠ 320 → x ≠ 321 → x ≠ 322 → τ.2 x = σ.2 x
theorem FCa.refl : FCa σ σ := ⟨fun _ _ => rfl, fun _ _ _ _ _ => rfl, fun _ _ _ _ _ => rfl⟩
theorem FCa.trans {τ υ : Mem} (h : FCa σ τ) (k : FCa τ υ) : FCa σ υ := ⟨fun x h1 => (k.1 x h1).trans (h.1 x h1), fun c h1 h2 h3 h4 => (k.2.1 c h1 h2 h3 h4).trans (h.2.1 c h1 h2 h3 h4), fun x h1 h2 h3 h4 => (k.2.2 x h1 h2 h3 h4).trans (h.2.2 x h1 h2 h3 h4)⟩
theorem FCq.ca {τ : Mem} (h : FCq σ τ) : FCa σ τ := ⟨h.1, fun c a b d _ => h.2.1 c a b d, fun x _ a b _ => h.2.2 x a b⟩
theorem FCa.fld {c : Nat} {v : Int32} (h : c = 31 ∨ c = 33 ∨ c = 34 ∨ c = 36) : FCa σ (wI σ 306 c v) := ⟨fun x hx => by funext y; rw [wI_1, if_neg (fun q => hx q.1)], fun d h1 h2 h3 h4 => by rw [wI_1, if_neg (by omega)], fun _ _ _ _ _ => rfl⟩
theorem FCa.row {a : Nat} {g : Nat → Int64} (h : a = 320 ∨ a = 321 ∨ a = 322) : FCa σ (rwL σ a g) := ⟨fun _ _ => rfl, fun _ _ _ _ _ => rfl, fun x _ h1 h2 h3 => rwL_x (by omega)⟩
theorem FCa.ps : FCa σ (PS σ f) := ⟨fun _ _ => rfl, fun _ _ _ _ _ => rfl, fun x h _ _ _ => PS_2 h⟩
theorem MG.ca {τ : Mem} (h : MG σ G) (k : FCa σ τ) : MG τ G := by
  unfold MG
  rw [k.1 307 (by omega)]
  exact h
theorem M0.ca {τ : Mem} (h : M0 σ) (k : FCa σ τ) : M0 τ := fun m hm => by rw [k.2.2 314 (by omega) (by omega) (by omega) (by omega)]; exact h m hm
theorem FCa.sr {τ : Mem} (k : FCa σ τ) : SR σ τ := ⟨fun x hx => ⟨k.1 x (by omega), k.2.2 x (by omega) (by omega) (by omega) (by omega)⟩, fun x hx => k.1 x (by omega), fun c hc => k.2.1 c (by omega) (by omega) (by omega) (by omega), k.2.2 312 (by omega) (by omega) (by omega) (by omega), fun m _ => by rw [k.2.2 314 (by omega) (by omega) (by omega) (by omega)]⟩
theorem i32_12 : (12 : Int32) = i32 12 := rfl
theorem i32_50 : (50 : Int32) = i32 50 := rfl
/-- the column of a commutator's numbers of one weight, and who made it -/
def vcl (G : GD) (w : Nat) (a b : Nat → Int) : Nat → Int := fun k => if k < 6 then (if k < gn G ∧ gw G k = w then cmm G a b k else 0) else if 12 ≤ k ∧ k < 12 + gn G then b (k - 12) else 0
def az0 (r : Nat → Int64) (m i : Nat) : Nat → Int64 := fun y => if 18 * m ≤ y ∧ y < 18 * m + i then 0 else r y
def az1 (G : GD) (w : Nat) (c : Nat → Int) (r : Nat → Int64) (m i : Nat) : Nat → Int64 := fun y => if 18 * m ≤ y ∧ y < 18 * m + 18 then (if y < 18 * m + i ∧ gw G (y - 18 * m) = w then oi (c (y - 18 * m)) else 0) else r y
def az2 (G : GD) (w : Nat) (c b : Nat → Int) (r : Nat → Int64) (m i : Nat) : Nat → Int64 := fun y => if 18 * m + 12 ≤ y ∧ y < 18 * m + 12 + i then oi (b (y - (18 * m + 12))) else az1 G w c r m (gn G) y
theorem r_adds0 {m : Nat} (hm : m < 20) (h31 : σ.1 306 31 = i32 m) : loopO (fun (z22 : (Mem × Int32)) => l_X11_adds_11 z22.1 z22.2) (PS σ f, 0) = some (PS (rwL σ 320 (az0 (σ.2 320) m 18)) f) := by
  refine loop_at (body := fun (z22 : (Mem × Int32)) => l_X11_adds_11 z22.1 z22.2) (fun i => (PS (rwL σ 320 (az0 (σ.2 320) m i)) f, i32 i)) 0 18 ?_ (by omega) (fun i _ hi => ?_) ?_
  · refine Prod.ext ?_ rfl
    show PS (rwL σ 320 (az0 (σ.2 320) m 0)) f = PS σ f
    rw [rwL_id (f := az0 (σ.2 320) m 0) (fun y => by
      unfold az0
      rw [if_neg (by omega)])]
  · show l_X11_adds_11 (PS (rwL σ 320 (az0 (σ.2 320) m i)) f) (i32 i) = _
    unfold l_X11_adds_11
    have g31 : (PS (rwL σ 320 (az0 (σ.2 320) m i)) f).1 306 31 = i32 m := h31
    rw [i32_18, if_neg (i_nle hi (by omega)), e_gF, g31, i32_mul, i32_add, e_pL ln_320 (by omega) (by omega), i32_1, i32_add, ← PS_rwL (by omega), rwL_w, PS_rwL (by omega)]
    refine congrArg (fun τ => some (Sum.inl (PS τ f, i32 (i + 1)))) (rwL_congr (fun y => ?_))
    unfold az0
    by_cases hy : y = 18 * m + i
    · rw [if_pos hy, if_pos (by omega)]
    · rw [if_neg hy]
      by_cases h2 : 18 * m ≤ y ∧ y < 18 * m + i
      · rw [if_pos h2, if_pos (by omega)]
      · rw [if_neg h2, if_neg (by omega)]
  · show l_X11_adds_11 _ (i32 18) = _
    unfold l_X11_adds_11
    rw [if_pos (by decide)]
theorem r_adds1 {m w : Nat} (hG : GOK G) (hM : MG σ G) (hm : m < 20) (h31 : σ.1 306 31 = i32 m) (hw : w < 2 ^ 31) : loopO (fun (z14 : (Mem × Int32)) => l_X11_adds_43 (i32 w) z14.1 z14.2) (PS (rwL σ 320 (az0 (σ.2 320) m 18)) f, 0) = some (PS (rwL σ 320 (az1 G w (f 50) (σ.2 320) m (gn G))) f) := by
  have hn := hG.2.1
  refine loop_at (body := fun (z14 : (Mem × Int32)) => l_X11_adds_43 (i32 w) z14.1 z14.2) (fun i => (PS (rwL σ 320 (az1 G w (f 50) (σ.2 320) m i)) f, i32 i)) 0 (gn G) ?_ (by omega) (fun i _ hi => ?_) ?_
  · refine Prod.ext ?_ rfl
    show PS (rwL σ 320 (az1 G w (f 50) (σ.2 320) m 0)) f = PS (rwL σ 320 (az0 (σ.2 320) m 18)) f
    refine congrArg (fun τ => PS τ f) (rwL_congr (fun y => ?_))
    unfold az1 az0
    by_cases h1 : 18 * m ≤ y ∧ y < 18 * m + 18
    · rw [if_pos h1, if_pos h1, if_neg (by omega)]
    · rw [if_neg h1, if_neg h1]
  · show l_X11_adds_43 (i32 w) (PS (rwL σ 320 (az1 G w (f 50) (σ.2 320) m i)) f) (i32 i) = _
    unfold l_X11_adds_43
    have hM' : MG (PS (rwL σ 320 (az1 G w (f 50) (σ.2 320) m i)) f) G := hM
    have g31 : (PS (rwL σ 320 (az1 G w (f 50) (σ.2 320) m i)) f).1 306 31 = i32 m := h31
    have hw3 := (hG.2.2.1 i hi).2
    rw [e_n hM', e_bs, if_neg (i_nle hi (by omega)), e_weight hM' (by omega), e_bs]
    by_cases hwi : gw G i = w
    · rw [if_pos (by rw [hwi]), e_gF, g31, i32_50, p_of (by omega) (by omega), e_bs, i32_18, i32_mul, i32_add, e_pL ln_320 (by omega) (by omega), e_bs]
      unfold j_X11_adds_85
      rw [i32_1, i32_add, ← PS_rwL (by omega), rwL_w, PS_rwL (by omega)]
      refine congrArg (fun τ => some (Sum.inl (PS τ f, i32 (i + 1)))) (rwL_congr (fun y => ?_))
      unfold az1
      by_cases hy : y = 18 * m + i
      · rw [if_pos hy, if_pos (by omega), hy, show 18 * m + i - 18 * m = i by omega, if_pos ⟨by omega, hwi⟩]
      · rw [if_neg hy]
        by_cases h1 : 18 * m ≤ y ∧ y < 18 * m + 18
        · rw [if_pos h1, if_pos h1]
          by_cases h2 : y < 18 * m + i ∧ gw G (y - 18 * m) = w
          · rw [if_pos h2, if_pos ⟨by omega, h2.2⟩]
          · rw [if_neg h2, if_neg (fun q => h2 ⟨by omega, q.2⟩)]
        · rw [if_neg h1, if_neg h1]
    · rw [if_neg (i_ne hwi (by omega) hw), e_bs]
      unfold j_X11_adds_85
      rw [i32_1, i32_add]
      refine congrArg (fun τ => some (Sum.inl (PS τ f, i32 (i + 1)))) (rwL_congr (fun y => ?_))
      unfold az1
      by_cases h1 : 18 * m ≤ y ∧ y < 18 * m + 18
      · rw [if_pos h1, if_pos h1]
        by_cases h2 : y < 18 * m + i ∧ gw G (y - 18 * m) = w
        · rw [if_pos h2, if_pos ⟨by omega, h2.2⟩]
        · rw [if_neg h2, if_neg (fun q => h2 ⟨by
            by_cases h3 : y - 18 * m = i
            · exact absurd (h3 ▸ q.2) hwi
            · omega, q.2⟩)]
      · rw [if_neg h1, if_neg h1]
  · show l_X11_adds_43 (i32 w) (PS (rwL σ 320 (az1 G w (f 50) (σ.2 320) m (gn G))) f) (i32 (gn G)) = _
    unfold l_X11_adds_43
    have hM' : MG (PS (rwL σ 320 (az1 G w (f 50) (σ.2 320) m (gn G))) f) G := hM
    rw [e_n hM', e_bs, if_pos (i_le (Nat.le_refl _) (by omega))]
theorem r_adds2 {m w b : Nat} (hG : GOK G) (hM : MG σ G) (hm : m < 20) (hb : b < 100) (h31 : σ.1 306 31 = i32 m) : loopO (fun (z8 : (Mem × Int32)) => l_X11_adds_94 (i32 b) z8.1 z8.2) (PS (rwL σ 320 (az1 G w (f 50) (σ.2 320) m (gn G))) f, 0) = some (PS (rwL σ 320 (az2 G w (f 50) (f b) (σ.2 320) m (gn G))) f) := by
  have hn := hG.2.1
  refine loop_at (body := fun (z8 : (Mem × Int32)) => l_X11_adds_94 (i32 b) z8.1 z8.2) (fun i => (PS (rwL σ 320 (az2 G w (f 50) (f b) (σ.2 320) m i)) f, i32 i)) 0 (gn G) ?_ (by omega) (fun i _ hi => ?_) ?_
  · refine Prod.ext ?_ rfl
    exact congrArg (fun τ => PS τ f) (rwL_congr (fun y => if_neg (by omega)))
  · show l_X11_adds_94 (i32 b) (PS (rwL σ 320 (az2 G w (f 50) (f b) (σ.2 320) m i)) f) (i32 i) = _
    unfold l_X11_adds_94
    have hM' : MG (PS (rwL σ 320 (az2 G w (f 50) (f b) (σ.2 320) m i)) f) G := hM
    have g31 : (PS (rwL σ 320 (az2 G w (f 50) (f b) (σ.2 320) m i)) f).1 306 31 = i32 m := h31
    rw [e_n hM', e_bs, if_neg (i_nle hi (by omega)), e_gF, g31, p_of hb (by omega), e_bs, i32_18, i32_12, i32_mul, i32_add, i32_add, e_pL ln_320 (by omega) (by omega), i32_1, i32_add, ← PS_rwL (by omega), rwL_w, PS_rwL (by omega)]
    refine congrArg (fun τ => some (Sum.inl (PS τ f, i32 (i + 1)))) (rwL_congr (fun y => ?_))
    unfold az2
    by_cases hy : y = 18 * m + 12 + i
    · rw [if_pos hy, if_pos (by omega), hy, show 18 * m + 12 + i - (18 * m + 12) = i by omega]
    · rw [if_neg hy]
      by_cases h2 : 18 * m + 12 ≤ y ∧ y < 18 * m + 12 + i
      · rw [if_pos h2, if_pos (by omega)]
      · rw [if_neg h2, if_neg (by omega)]
  · show l_X11_adds_94 (i32 b) (PS (rwL σ 320 (az2 G w (f 50) (f b) (σ.2 320) m (gn G))) f) (i32 (gn G)) = _
    unfold l_X11_adds_94
    have hM' : MG (PS (rwL σ 320 (az2 G w (f 50) (f b) (σ.2 320) m (gn G))) f) G := hM
    rw [e_n hM', e_bs, if_pos (i_le (Nat.le_refl _) (by omega))]
theorem r_adds {C : Nat → Nat → Int} {m s b w : Nat} (hG : GOK G) (hM : MG σ G) (h0 : M0 σ) (hm : m < 20) (hC : Cl σ C m) (h31 : σ.1 306 31 = i32 m) (hs : s < 50) (hb : b < 50) (hw : w < 2 ^ 31) {B : Int} (hB : 4 * B ≤ 2 ^ 30) (hB0 : 0 ≤ B) (ha : SB G B (f s)) (hbb : SB G B (f b)) : ∃ σ' f', f_X11_adds (PS σ f) (i32 s) (i32 b) (i32 w) = some (PS σ' f') ∧ FCa σ σ' ∧ σ'.1 306 31 = i32 (m + 1) ∧ (∀ q, q < 50 → f' q = f q) ∧ Cl σ' (adC C m (vcl G w (f s) (f b))) (m + 1) ∧ σ'.2 322 = σ.2 322 ∧ σ'.1 306 36 = σ.1 306 36 := by
  have hn := hG.2.1
  obtain ⟨f1, e1, c1, k1⟩ := p_commutator (f := f) hM hG h0 (s := s) (r := b) (t := 50) (by omega) (by omega) (by omega) (by omega) (by omega) hB hB0 ha hbb
  unfold f_X11_adds
  rw [i32_50, e1, e_bs, r_adds0 hm h31, e_bs]
  unfold j_X11_adds_40
  rw [r_adds1 hG hM hm h31 hw, e_bs]
  unfold j_X11_adds_91
  rw [r_adds2 hG hM hm (by omega) h31, e_bs]
  unfold j_X11_adds_134
  have g31 : (PS (rwL σ 320 (az2 G w (f1 50) (f1 b) (σ.2 320) m (gn G))) f1).1 306 31 = i32 m := h31
  rw [e_gF, g31, i32_1, i32_add, e_pF, PS_wI6]
  refine ⟨_, f1, rfl, (FCa.row (by omega)).trans (FCa.fld (by omega)), by rw [wI_1, if_pos ⟨rfl, rfl⟩], fun q hq => k1 q (by omega), fun c k hc hk => ?_, rwL_x (σ := σ) (a := 320) (x := 322) (f := az2 G w (f1 50) (f1 b) (σ.2 320) m (gn G)) (by omega), by rw [wI_1, if_neg (by omega)]; rfl⟩
  have hfb : f1 b = f b := k1 b (by omega)
  refine (rwL_a (σ := σ) (a := 320) (f := az2 G w (f1 50) (f1 b) (σ.2 320) m (gn G)) (y := 18 * c + k)).trans ?_
  by_cases hcm : c = m
  · subst hcm
    rw [adC_m]
    unfold az2 vcl az1
    rw [hfb, c1]
    by_cases h6 : k < 6
    · rw [if_neg (by omega), if_pos (by omega), if_pos h6, show 18 * c + k - 18 * c = k by omega]
      by_cases h7 : k < gn G ∧ gw G k = w
      · rw [if_pos ⟨by omega, h7.2⟩, if_pos h7]
        rfl
      · rw [if_neg (fun q => h7 ⟨by omega, q.2⟩), if_neg h7]
        rfl
    · rw [if_neg h6]
      by_cases h8 : 12 ≤ k ∧ k < 12 + gn G
      · rw [if_pos (by omega), if_pos h8, show 18 * c + k - (18 * c + 12) = k - 12 by omega]
      · rw [if_neg (by omega), if_pos (by omega), if_neg (by omega), if_neg h8]
        rfl
  · rw [adC_n hcm]
    unfold az2 az1
    rw [if_neg (by omega), if_neg (by omega)]
    exact hC c k (by omega) hk
end ADS
end
section
/-! the reference's alike: its small steps end -/
section SML
variable {σ : Mem} {G : GD} {f : SF}
theorem r_upTo (hG : GOK G) (hM : MG σ G) {w s y : Nat} (hs : s < 100) (hy : y < 100) (hw : w ≤ 3) : ∃ b, f_X11_areAlikeUpTo (PS σ f) (i32 w) (i32 s) (i32 y) = some b ∧ (b = true → ∀ k, k < gn G → gw G k ≤ w → oi (f s k) = oi (f y k)) := by
  have hn := hG.2.1
  unfold f_X11_areAlikeUpTo
  refine loop_inv (body := fun (z1 : Int32) => l_X11_areAlikeUpTo_3 (PS σ f) (i32 w) (i32 s) (i32 y) z1) (fun n z => ∃ i, i ≤ gn G ∧ n = gn G - i ∧ z = i32 i ∧ ∀ k, k < i → gw G k ≤ w → oi (f s k) = oi (f y k)) _ ?_ (gn G) 0 ⟨0, by omega, rfl, rfl, fun k hk => absurd hk (Nat.not_lt_zero _)⟩
  rintro n z ⟨i, hi, rfl, rfl, hz⟩
  by_cases hin : i = gn G
  · right
    subst hin
    refine ⟨true, ?_, fun _ => hz⟩
    unfold l_X11_areAlikeUpTo_3
    rw [e_n (PS_MG hM), e_bs, if_pos (i_le (Nat.le_refl _) (by omega))]
  · have hgw := (hG.2.2.1 i (by omega)).2
    have next : (gw G i ≤ w → oi (f s i) = oi (f y i)) → l_X11_areAlikeUpTo_3 (PS σ f) (i32 w) (i32 s) (i32 y) (i32 i) = some (Sum.inl (i32 (i + 1))) → (∃ s' n', n' < gn G - i ∧ l_X11_areAlikeUpTo_3 (PS σ f) (i32 w) (i32 s) (i32 y) (i32 i) = some (Sum.inl s') ∧ ∃ i, i ≤ gn G ∧ n' = gn G - i ∧ s' = i32 i ∧ ∀ k, k < i → gw G k ≤ w → oi (f s k) = oi (f y k)) := fun q e => ⟨i32 (i + 1), gn G - (i + 1), by omega, e, i + 1, by omega, rfl, rfl, fun k hk hk1 => by
      by_cases hki : k = i
      · rw [hki] at hk1 ⊢; exact q hk1
      · exact hz k (by omega) hk1⟩
    by_cases h1 : w < gw G i
    · left
      refine next (fun q => by omega) ?_
      unfold l_X11_areAlikeUpTo_3
      rw [e_n (PS_MG hM), e_bs, if_neg (i_nle (by omega) (by omega)), e_weight (PS_MG hM) (by omega), e_bs, if_pos (i_lt h1 (by omega)), e_bs]
      show j_X11_areAlikeUpTo_42 (i32 i) = _
      unfold j_X11_areAlikeUpTo_42
      rw [i32_1, i32_add]
    · by_cases h2 : oi (f s i) = oi (f y i)
      · left
        refine next (fun _ => h2) ?_
        unfold l_X11_areAlikeUpTo_3
        rw [e_n (PS_MG hM), e_bs, if_neg (i_nle (by omega) (by omega)), e_weight (PS_MG hM) (by omega), e_bs, if_neg (i_nlt (by omega) (by omega)), p_of hs (by omega), e_bs, p_of hy (by omega), e_bs, if_pos h2, e_bs]
        show j_X11_areAlikeUpTo_42 (i32 i) = _
        unfold j_X11_areAlikeUpTo_42
        rw [i32_1, i32_add]
      · right
        refine ⟨false, ?_, fun q => absurd q (by decide)⟩
        unfold l_X11_areAlikeUpTo_3
        rw [e_n (PS_MG hM), e_bs, if_neg (i_nle (by omega) (by omega)), e_weight (PS_MG hM) (by omega), e_bs, if_neg (i_nlt (by omega) (by omega)), p_of hs (by omega), e_bs, p_of hy (by omega), e_bs, if_neg h2, e_bs]
        rfl
theorem e_putD {g : Nat → Int64} {k : Nat} {v : Int64} {α : Type} {h : Mem → Option α} (hk : k < 18) : pL (PS (rwL σ 321 g) f) 321 (i32 k) v h = h (PS (rwL σ 321 (fun y => if y = k then v else g y)) f) := by
  rw [e_pL ln_321 hk (by omega), ← PS_rwL (by omega), rwL_w, PS_rwL (by omega)]
def AD (σ : Mem) (f : SF) (τ : Mem) : Prop := ∃ g, τ = PS (rwL σ 321 g) f
theorem r_laysDueT (hG : GOK G) (hM : MG σ G) {w s y : Nat} (hs : s < 100) (hy : y < 100) : ∃ g, f_X11_laysDue (PS σ f) (i32 s) (i32 y) (i32 w) = some (PS (rwL σ 321 g) f) := by
  have hn := hG.2.1
  unfold f_X11_laysDue
  obtain ⟨τ, e, g, rfl⟩ := cnt_inv (body := fun (z11 : (Mem × Int32)) => l_X11_laysDue_3 z11.1 z11.2) (P := fun _ τ => AD σ f τ) (Q := AD σ f) (a := 0) (b := 18) (s := PS σ f) (by omega) ⟨σ.2 321, by rw [rwL_id (fun _ => rfl)]⟩ (by
    rintro i τ _ h2 ⟨g, rfl⟩
    left
    show ∃ s', l_X11_laysDue_3 (PS (rwL σ 321 g) f) (i32 i) = _ ∧ _
    unfold l_X11_laysDue_3
    rw [i32_18, if_neg (i_nle h2 (by omega)), e_putD h2, i32_1, i32_add]
    exact ⟨_, rfl, _, rfl⟩) (by
    rintro τ ⟨g, rfl⟩
    show ∃ x, l_X11_laysDue_3 (PS (rwL σ 321 g) f) (i32 18) = _ ∧ _
    unfold l_X11_laysDue_3
    rw [if_pos (by decide)]
    exact ⟨_, rfl, g, rfl⟩)
  rw [show (0 : Int32) = i32 0 from rfl, e, e_bs]
  unfold j_X11_laysDue_24
  obtain ⟨τ, e2, g2, rfl⟩ := cnt_inv (body := fun (z3 : (Mem × Int32)) => l_X11_laysDue_27 (i32 s) (i32 y) (i32 w) z3.1 z3.2) (P := fun _ τ => AD σ f τ) (Q := AD σ f) (a := 0) (b := gn G) (s := PS (rwL σ 321 g) f) (by omega) ⟨g, rfl⟩ (by
    rintro i τ _ h2 ⟨g, rfl⟩
    left
    show ∃ s', l_X11_laysDue_27 (i32 s) (i32 y) (i32 w) (PS (rwL σ 321 g) f) (i32 i) = _ ∧ _
    have hM' : MG (PS (rwL σ 321 g) f) G := hM
    unfold l_X11_laysDue_27
    rw [e_n hM', e_bs, if_neg (i_nle h2 (by omega)), e_weight hM' (by omega), e_bs]
    split
    · rw [p_of hy (by omega), e_bs, p_of hs (by omega), e_bs, e_putD (by omega), e_bs]
      unfold j_X11_laysDue_68
      rw [i32_1, i32_add]
      exact ⟨_, rfl, _, rfl⟩
    · rw [e_bs]
      unfold j_X11_laysDue_68
      rw [i32_1, i32_add]
      exact ⟨_, rfl, _, rfl⟩) (by
    rintro τ ⟨g, rfl⟩
    show ∃ x, l_X11_laysDue_27 (i32 s) (i32 y) (i32 w) (PS (rwL σ 321 g) f) (i32 (gn G)) = _ ∧ _
    have hM' : MG (PS (rwL σ 321 g) f) G := hM
    unfold l_X11_laysDue_27
    rw [e_n hM', e_bs, if_pos (i_le (Nat.le_refl _) (by omega))]
    exact ⟨_, rfl, g, rfl⟩)
  exact ⟨g2, e2⟩
theorem r_letterAt {s i : Nat} (hs : s < 100) (hi : i < 6) : ∃ f', f_X11_letterAt (PS σ f) (i32 s) (i32 i) 1 = some (PS σ f') ∧ f' s = uV (fun _ => 0) i 1 ∧ ∀ q, q ≠ s → f' q = f q := by
  unfold f_X11_letterAt
  rw [p_ones hs, e_bs, show (1 : Int64) = oi 1 from rfl, p_puts hs hi, e_bs]
  exact ⟨_, rfl, by rw [uS_self, uS_self], fun q hq => by rw [uS_ne hq, uS_ne hq]⟩
theorem r_canMakeZ {X : Int} {m lo hi : Nat} {T Z : Nat → Prop} {C0 : Nat → Nat → Int} (hX : 1 ≤ X) (hm : m ≤ 20) (hC : Cl σ C0 m) (h31 : σ.1 306 31 = i32 m) (h0 : Gro X m lo hi T 0 0 C0) (hz : ∀ c, c < m → ∀ j, Z j → C0 c j = 0) (hfit : ∀ p, p + 1 ≤ m → p + lo + 1 ≤ hi → gG X p ≤ 2 ^ 62) : ∃ b τ, f_X11_canMake σ = some (b, τ) ∧ FCm σ τ ∧ (b = true → ∃ k C, k ≤ m ∧ τ.1 306 34 = i32 k ∧ Cl τ C m ∧ Gro X m lo hi T 6 k C ∧ ∀ c, k ≤ c → c < m → ∀ j, Z j → C c j = 0) := by
  refine r_canMakeT (Bd := fun k f C => Gro X m lo hi T k f C ∧ ∀ c, f ≤ c → c < m → ∀ j, Z j → C c j = 0) hm hC h31 (fun k f C hk hf h => ⟨fun c c1 c2 => ?_, fun D pv hc ho => ⟨h.1.next hX hk hc ho, fun c c1 c2 j hj => hc.zero (fun c c1 c2 => h.2 c c1 c2 j hj) c (by omega) c2⟩⟩) ⟨h0, fun c _ c2 j hj => hz c c2 j hj⟩
  by_cases hin : k < lo ∨ hi ≤ k
  · rw [h.1.2.1 c c1 c2 k hk hin]
    exact ⟨by omega, by omega⟩
  · refine (h.1.2.2.1 c c1 c2 k hk).mono (hfit f (by omega) ?_)
    rcases h.1.1 with q | q
    · omega
    · omega
end SML
end
section
/-! the reference's alike: columns of weight 2 -/
section SG1
variable {σ : Mem} {G : GD} {f : SF} {m t : Nat}
theorem beq_t {a b : Nat} (h : a = b) : Nat.beq a b = true := by rw [Nat.beq_eq]; exact h
theorem XN_le {n i k : Nat} (hi : i < n) (hk : k < n) (h1 : wS m t i = 1) (h2 : wS m t k = 2) : cbN (wS m t) n k c30 (u1 i) ≤ XN m t n := by
  unfold XN
  refine Nat.le_trans ?_ (Nat.le_max_right _ _)
  refine Nat.le_trans ?_ (mxN_le n i hi)
  refine Nat.le_trans ?_ (mxN_le n k hk)
  rw [beq_t h1, beq_t h2]
  exact Nat.le_refl _
theorem QN_le1 {n k h : Nat} (hk : k < n) (h3 : wS m t k = 3) : cbN (wS m t) n k c30 (hq m t h) ≤ QN m t n h := by
  unfold QN
  refine Nat.le_trans ?_ (Nat.le_max_right _ _)
  refine Nat.le_trans ?_ (Nat.le_max_left _ _)
  refine Nat.le_trans ?_ (mxN_le n k hk)
  rw [beq_t h3]
  exact Nat.le_refl _
theorem QN_le2 {n i k h : Nat} (hi : i < n) (hk : k < n) (h2 : wS m t i = 2) (h3 : wS m t k = 3) : cbN (wS m t) n k c30 (u1 i) ≤ QN m t n h := by
  unfold QN
  refine Nat.le_trans ?_ (Nat.le_max_right _ _)
  refine Nat.le_trans ?_ (Nat.le_max_right _ _)
  refine Nat.le_trans ?_ (mxN_le n i hi)
  refine Nat.le_trans ?_ (mxN_le n k hk)
  rw [beq_t h2, beq_t h3]
  exact Nat.le_refl _
theorem XN_pos {n : Nat} : (1 : Int) ≤ (XN m t n : Nat) := by
  have : 1 ≤ XN m t n := by unfold XN; exact Nat.le_max_left _ _
  omega
theorem QN_pos {n h : Nat} : (1 : Int) ≤ (QN m t n h : Nat) := by
  have : 1 ≤ QN m t n h := by unfold QN; exact Nat.le_max_left _ _
  omega
/-- one letter -/
def e1V (i : Nat) : Nat → Int := uV (fun _ => 0) i 1
theorem e1V_at {i k : Nat} : e1V i k = if k = i then 1 else 0 := rfl
theorem e1V_ab {i k : Nat} : (e1V i k).natAbs ≤ u1 i k := by
  rw [e1V_at]
  unfold u1
  by_cases h : k = i
  · rw [if_pos h, beq_t h]
    exact Nat.le_refl _
  · rw [if_neg h]
    exact Nat.zero_le _
theorem e1V_sb {i : Nat} : SB G 30 (e1V i) := fun j _ _ => by
  rw [e1V_at]
  by_cases h : j = i
  · rw [if_pos h]; omega
  · rw [if_neg h]; omega
theorem wi_ab {x : Int} {b c : Nat} (h : x.natAbs ≤ b) (hb : b ≤ c) : Wi ((c : Nat) : Int) x := ⟨by omega, by omega⟩
theorem gro1 {C : Nat → Nat → Int} {A : Nat → Int} (hG : GOK G) (hJ : Jac G) (hsh : ∀ i, i < gn G → gw G i = wS m t i) (hmt : m + t ≤ gn G) (hA : ∀ k, k < gn G → -30 ≤ A k ∧ A k ≤ 30) (hC : ∀ c, c < m → C c = vcl G 2 A (e1V c)) : Gro (XN m t (gn G) : Nat) m m (m + t) (fun j => 12 ≤ j ∧ j < 18) 0 0 C := by
  have hn := hG.2.1
  have ent : ∀ c, c < m → ∀ j, j < 6 → Wi ((XN m t (gn G) : Nat) : Int) (C c j) := fun c hc j hj => by
    rw [hC c hc]
    unfold vcl
    rw [if_pos hj]
    by_cases h1 : j < gn G ∧ gw G j = 2
    · rw [if_pos h1]
      refine wi_ab (cmm_ab hG hJ hsh h1.1 (x := c30) (y := u1 c) (fun i hi _ => ?_) (fun i _ _ => e1V_ab)) (XN_le (by omega) h1.1 (wS_1.mpr hc) ((hsh j h1.1).symm.trans h1.2))
      have := hA i hi
      show _ ≤ 30
      omega
    · rw [if_neg h1]
      have := XN_pos (m := m) (t := t) (n := gn G)
      exact ⟨by omega, by omega⟩
  have idn : ∀ c, c < m → ∀ j, 12 ≤ j → C c j = if j = 12 + c then 1 else 0 := fun c hc j hj => by
    rw [hC c hc]
    unfold vcl
    rw [if_neg (by omega)]
    by_cases h1 : 12 ≤ j ∧ j < 12 + gn G
    · rw [if_pos h1, e1V_at]
      by_cases h2 : j = 12 + c
      · rw [if_pos h2, if_pos (by omega)]
      · rw [if_neg h2, if_neg (by omega)]
    · rw [if_neg h1, if_neg (by omega)]
  refine ⟨Or.inl rfl, fun c _ hc j hj hr => ?_, fun c _ hc j hj => ent c hc j hj, fun c _ hc j hj => ?_, fun _ c e hc he i j hi hj => ?_⟩
  · rw [hC c hc]
    unfold vcl
    rw [if_pos hj, if_neg (fun q => by
      have a := wS_2.mp ((hsh j q.1).symm.trans q.2)
      omega)]
  · show Wi 1 (C c j)
    rw [idn c hc j hj.1]
    split
    · exact ⟨by omega, by omega⟩
    · exact ⟨by omega, by omega⟩
  · rw [idn c hc j hj.1, idn e he j hj.1]
    have w1 := ent c hc i hi
    have w2 := ent e he i hi
    by_cases h1 : j = 12 + e
    · by_cases h2 : j = 12 + c
      · rw [if_pos h1, if_pos h2, show c = e by omega, Int.sub_self]
        have := XN_pos (m := m) (t := t) (n := gn G)
        exact ⟨by omega, by omega⟩
      · rw [if_pos h1, if_neg h2, Int.mul_one, Int.mul_zero, Int.sub_zero]
        exact w1
    · by_cases h2 : j = 12 + c
      · rw [if_neg h1, if_pos h2, Int.mul_one, Int.mul_zero]
        exact ⟨by have := w2.2; omega, by have := w2.1; omega⟩
      · rw [if_neg h1, if_neg h2, Int.mul_zero, Int.mul_zero, Int.sub_zero]
        have := XN_pos (m := m) (t := t) (n := gn G)
        exact ⟨by omega, by omega⟩
theorem i32_40 : (40 : Int32) = i32 40 := rfl
theorem r_stage1 (hG : GOK G) (hM : MG σ G) (h0 : M0 σ) (hsh : ∀ i, i < gn G → gw G i = wS m t i) (hmt : m + t ≤ gn G) (hA : ∀ k, k < gn G → -30 ≤ f 0 k ∧ f 0 k ≤ 30) (h31 : σ.1 306 31 = 0) : ∃ τ, loopO (fun (z33 : (Mem × Int32)) => l_X11_areAlike_19 z33.1 z33.2) (PS σ f, i32 0) = some τ ∧ ∃ σ' f' C, τ = PS σ' f' ∧ FCa σ σ' ∧ σ'.1 306 31 = i32 m ∧ (∀ q, q < 40 → f' q = f q) ∧ Cl σ' C m ∧ ∀ c, c < m → C c = vcl G 2 (f 0) (e1V c) := by
  have hn := hG.2.1
  refine cnt_inv (body := fun (z33 : (Mem × Int32)) => l_X11_areAlike_19 z33.1 z33.2) (P := fun i τ => ∃ σ' f' C, τ = PS σ' f' ∧ FCa σ σ' ∧ σ'.1 306 31 = i32 (min i m) ∧ (∀ q, q < 40 → f' q = f q) ∧ Cl σ' C (min i m) ∧ ∀ c, c < min i m → C c = vcl G 2 (f 0) (e1V c)) (a := 0) (b := gn G) (by omega) ⟨σ, f, fun _ _ => 0, rfl, FCa.refl, by rw [h31, Nat.zero_min]; rfl, fun _ _ => rfl, fun c j hc _ => by omega, fun c hc => by omega⟩ ?_ ?_
  · rintro i τ _ h2 ⟨σ', f', C, rfl, fr, q31, hf, hC, hCc⟩
    left
    have hM' := hM.ca fr
    have hg := hsh i h2
    have hg3 := (hG.2.2.1 i h2).2
    show ∃ s', l_X11_areAlike_19 (PS σ' f') (i32 i) = _ ∧ _
    unfold l_X11_areAlike_19
    rw [e_n (PS_MG hM'), e_bs, if_neg (i_nle h2 (by omega)), e_weight (PS_MG hM') (by omega), e_bs]
    by_cases him : i < m
    · rw [hg, wS_1.mpr him, i32_1, if_pos (i_le (Nat.le_refl 1) (by omega))]
      obtain ⟨f1, e1, a1, b1⟩ := r_letterAt (σ := σ') (f := f') (s := 40) (i := i) (by omega) (by omega)
      have c0 : f1 0 = f 0 := (b1 0 (by omega)).trans (hf 0 (by omega))
      obtain ⟨σ2, f2, e2, fr2, g31, k2, hC2, _, _⟩ := r_adds (σ := σ') (f := f1) (C := C) (m := min i m) (s := 0) (b := 40) (w := 2) hG hM' (h0.ca fr) (by omega) hC q31 (by omega) (by omega) (by omega) (B := 30) (by omega) (by omega) (by rw [c0]; exact fun j hj _ => hA j hj) (by rw [a1]; exact e1V_sb)
      have e1' : f_X11_letterAt (PS σ' f') 40 (i32 i) 1 = some (PS σ' f1) := e1
      have e2' : f_X11_adds (PS σ' f1) 0 40 2 = some (PS σ2 f2) := e2
      have hmin : min i m = i := by omega
      have hmin2 : min (i + 1) m = i + 1 := by omega
      rw [e1', e_bs, e2', e_bs, e_bs]
      unfold j_X11_areAlike_55
      rw [i32_1, i32_add]
      rw [hmin] at g31 hC2
      refine ⟨_, rfl, σ2, f2, adC C i (vcl G 2 (f1 0) (f1 40)), rfl, fr.trans fr2, by rw [hmin2]; exact g31, fun q hq => by rw [k2 q (by omega), b1 q (by omega), hf q hq], by rw [hmin2]; exact hC2, fun c hc => ?_⟩
      by_cases hci : c = i
      · rw [hci, adC_m, c0, a1]
        rfl
      · rw [adC_n hci]
        exact hCc c (by omega)
    · have hmin : min (i + 1) m = min i m := by omega
      have hg2 : ¬ gw G i = 1 := fun q => him (wS_1.mp (hg.symm.trans q))
      have hg1 := (hG.2.2.1 i h2).1
      rw [if_neg (show ¬ i32 (gw G i) ≤ 1 from i_nle (b := 1) (by omega) (by omega)), e_bs]
      unfold j_X11_areAlike_55
      rw [i32_1, i32_add]
      exact ⟨_, rfl, σ', f', C, rfl, fr, by rw [hmin]; exact q31, hf, by rw [hmin]; exact hC, by rw [hmin]; exact hCc⟩
  · rintro τ ⟨σ', f', C, rfl, fr, q31, hf, hC, hCc⟩
    have hM' := hM.ca fr
    have hmin : min (gn G) m = m := by omega
    rw [hmin] at q31 hC hCc
    show ∃ x, l_X11_areAlike_19 (PS σ' f') (i32 (gn G)) = _ ∧ _
    unfold l_X11_areAlike_19
    rw [e_n (PS_MG hM'), e_bs, if_pos (i_le (Nat.le_refl _) (by omega))]
    exact ⟨_, rfl, σ', f', C, rfl, fr, q31, hf, hC, hCc⟩
end SG1
end
section
/-! the reference's alike: who moves nothing of weight 2 -/
section QUI
variable {σ : Mem} {G : GD} {f : SF}
def qzF (r q : Nat → Int64) (c v i : Nat) : Nat → Int64 := fun y => if 6 * v ≤ y ∧ y < 6 * v + i then r (18 * c + 12 + (y - 6 * v)) else q y
theorem r_quiet1 {c v : Nat} (hc : c < 20) (hv : v < 12) (h36 : σ.1 306 36 = i32 v) : loopO (fun (z28 : (Mem × Int32)) => l_X11_areAlike_97 (i32 c) z28.1 z28.2) (σ, 0) = some (rwL σ 322 (qzF (σ.2 320) (σ.2 322) c v 6)) := by
  refine loop_at (body := fun (z28 : (Mem × Int32)) => l_X11_areAlike_97 (i32 c) z28.1 z28.2) (fun i => (rwL σ 322 (qzF (σ.2 320) (σ.2 322) c v i), i32 i)) 0 6 ?_ (by omega) (fun i _ hi => ?_) ?_
  · refine Prod.ext ?_ rfl
    exact rwL_id (f := qzF (σ.2 320) (σ.2 322) c v 0) (fun y => by
      unfold qzF
      rw [if_neg (by omega)])
  · show l_X11_areAlike_97 (i32 c) (rwL σ 322 (qzF (σ.2 320) (σ.2 322) c v i)) (i32 i) = _
    unfold l_X11_areAlike_97
    have g36 : (rwL σ 322 (qzF (σ.2 320) (σ.2 322) c v i)).1 306 36 = i32 v := h36
    have hval : (rwL σ 322 (qzF (σ.2 320) (σ.2 322) c v i)).2 320 (18 * c + (12 + i)) = σ.2 320 (18 * c + 12 + i) := by
      rw [rwL_x (by omega), show 18 * c + (12 + i) = 18 * c + 12 + i by omega]
    rw [i32_6, if_neg (i_nle hi (by omega)), e_gF, g36, i32_12, i32_add, r_ofColumn hc (by omega), e_bs, i32_mul, i32_add, e_pL ln_322 (by omega) (by omega), hval, rwL_w, i32_1, i32_add]
    refine congrArg (fun τ => some (Sum.inl (τ, i32 (i + 1)))) (rwL_congr (fun y => ?_))
    unfold qzF
    by_cases hy : y = 6 * v + i
    · rw [if_pos hy, if_pos (by omega), hy, show 6 * v + i - 6 * v = i by omega]
    · rw [if_neg hy]
      by_cases h2 : 6 * v ≤ y ∧ y < 6 * v + i
      · rw [if_pos h2, if_pos (by omega)]
      · rw [if_neg h2, if_neg (by omega)]
  · show l_X11_areAlike_97 (i32 c) _ (i32 6) = _
    unfold l_X11_areAlike_97
    rw [if_pos (by decide)]
theorem r_quiet {m k : Nat} (hm : m ≤ 6) (hk : k ≤ m) (h31 : σ.1 306 31 = i32 m) (h36 : σ.1 306 36 = 0) : ∃ τ, loopO (fun (z22 : (Mem × Int32)) => l_X11_areAlike_87 z22.1 z22.2) (σ, i32 k) = some τ ∧ FCa σ τ ∧ τ.2 313 = σ.2 313 ∧ τ.2 321 = σ.2 321 ∧ τ.1 306 36 = i32 (m - k) ∧ ∀ e, e < m - k → ∀ i, i < 6 → τ.2 322 (6 * e + i) = σ.2 320 (18 * (k + e) + 12 + i) := by
  refine cnt_inv (body := fun (z22 : (Mem × Int32)) => l_X11_areAlike_87 z22.1 z22.2) (P := fun c τ => FCa σ τ ∧ τ.1 306 31 = i32 m ∧ τ.2 320 = σ.2 320 ∧ τ.2 313 = σ.2 313 ∧ τ.2 321 = σ.2 321 ∧ τ.1 306 36 = i32 (c - k) ∧ ∀ e, e < c - k → ∀ i, i < 6 → τ.2 322 (6 * e + i) = σ.2 320 (18 * (k + e) + 12 + i)) (a := k) (b := m) hk ⟨FCa.refl, h31, rfl, rfl, rfl, by rw [h36, Nat.sub_self]; rfl, fun e he => by omega⟩ ?_ ?_
  · rintro c τ c1 c2 ⟨fr, g31, r320, r313, r321, g36, hq⟩
    left
    show ∃ s', l_X11_areAlike_87 τ (i32 c) = _ ∧ _
    unfold l_X11_areAlike_87
    rw [e_gF, g31, if_neg (i_nle c2 (by omega)), r_quiet1 (by omega) (by omega) g36, e_bs]
    unfold j_X11_areAlike_132
    have g36' : (rwL τ 322 (qzF (τ.2 320) (τ.2 322) c (c - k) 6)).1 306 36 = i32 (c - k) := g36
    rw [e_gF, g36', e_pF, i32_1, i32_add, i32_add]
    refine ⟨_, rfl, (fr.trans (FCa.row (by omega))).trans (FCa.fld (by omega)), ?_, ?_, ?_, ?_, ?_, fun e he i hi => ?_⟩
    · rw [wI_1, if_neg (by omega)]; exact g31
    · exact (rwL_x (σ := τ) (a := 322) (x := 320) (f := qzF (τ.2 320) (τ.2 322) c (c - k) 6) (by omega)).trans r320
    · exact (rwL_x (σ := τ) (a := 322) (x := 313) (f := qzF (τ.2 320) (τ.2 322) c (c - k) 6) (by omega)).trans r313
    · exact (rwL_x (σ := τ) (a := 322) (x := 321) (f := qzF (τ.2 320) (τ.2 322) c (c - k) 6) (by omega)).trans r321
    · rw [wI_1, if_pos ⟨rfl, rfl⟩, show c - k + 1 = c + 1 - k by omega]
    · refine (rwL_a (σ := τ) (a := 322) (f := qzF (τ.2 320) (τ.2 322) c (c - k) 6) (y := 6 * e + i)).trans ?_
      unfold qzF
      by_cases hec : e = c - k
      · rw [if_pos (by omega), r320, hec, show 18 * c + 12 + (6 * (c - k) + i - 6 * (c - k)) = 18 * (k + (c - k)) + 12 + i by omega]
      · rw [if_neg (by omega)]
        exact hq e (by omega) i hi
  · rintro τ ⟨fr, g31, r320, r313, r321, g36, hq⟩
    show ∃ x, l_X11_areAlike_87 τ (i32 m) = _ ∧ _
    unfold l_X11_areAlike_87
    rw [e_gF, g31, if_pos (i_le (Nat.le_refl _) (by omega))]
    exact ⟨_, rfl, fr, r313, r321, g36, hq⟩
theorem p_putsA {s i : Nat} {v : Int64} (hs : s < 100) (hi : i < 6) : f_X11_puts (PS σ f) (i32 s) (i32 i) v = some (PS σ (uS f s (uV (f s) i v.toInt))) := by
  have := p_puts (σ := σ) (f := f) (s := s) (i := i) (x := v.toInt) hs hi
  rw [show oi v.toInt = v from Int64.ofInt_toInt v] at this
  exact this
theorem r_duePuts (hG : GOK G) (hM : MG σ G) : ∃ τ, loopO (fun (z17 : (Mem × Int32)) => l_X11_areAlike_156 z17.1 z17.2) (PS σ f, i32 0) = some τ ∧ ∃ f', τ = PS σ f' ∧ ∀ q, q ≠ 41 → f' q = f q := by
  have hn := hG.2.1
  refine cnt_inv (body := fun (z17 : (Mem × Int32)) => l_X11_areAlike_156 z17.1 z17.2) (P := fun _ τ => ∃ f', τ = PS σ f' ∧ ∀ q, q ≠ 41 → f' q = f q) (a := 0) (b := gn G) (by omega) ⟨f, rfl, fun _ _ => rfl⟩ ?_ ?_
  · rintro i τ _ h2 ⟨f', rfl, hf⟩
    left
    show ∃ s', l_X11_areAlike_156 (PS σ f') (i32 i) = _ ∧ _
    unfold l_X11_areAlike_156
    rw [e_n (PS_MG hM), e_bs, if_neg (i_nle h2 (by omega)), i32_12, i32_add, e_gL ln_321 (by omega) (by omega), show (41 : Int32) = i32 41 from rfl, p_putsA (by omega) (by omega), e_bs, i32_1, i32_add]
    exact ⟨_, rfl, _, rfl, fun q hq => by rw [uS_ne hq, hf q hq]⟩
  · rintro τ ⟨f', rfl, hf⟩
    show ∃ x, l_X11_areAlike_156 (PS σ f') (i32 (gn G)) = _ ∧ _
    unfold l_X11_areAlike_156
    rw [e_n (PS_MG hM), e_bs, if_pos (i_le (Nat.le_refl _) (by omega))]
    exact ⟨_, rfl, f', rfl, hf⟩
theorem r_quietPuts {c : Nat} {D : Nat → Int} (hc : c < 12) (hD : ∀ i, i < 6 → σ.2 322 (6 * c + i) = oi (D i)) : ∃ τ, loopO (fun (z21 : (Mem × Int32)) => l_X11_areAlikeInLast_29 (i32 c) z21.1 z21.2) (PS σ f, i32 0) = some τ ∧ ∃ f', τ = PS σ f' ∧ (∀ q, q ≠ 40 → f' q = f q) ∧ ∀ i, i < 6 → f' 40 i = D i := by
  refine cnt_inv (body := fun (z21 : (Mem × Int32)) => l_X11_areAlikeInLast_29 (i32 c) z21.1 z21.2) (P := fun i τ => ∃ f', τ = PS σ f' ∧ (∀ q, q ≠ 40 → f' q = f q) ∧ ∀ x, x < i → f' 40 x = D x) (a := 0) (b := 6) (by omega) ⟨f, rfl, fun _ _ => rfl, fun x hx => by omega⟩ ?_ ?_
  · rintro i τ _ h2 ⟨f', rfl, hf, hd⟩
    left
    show ∃ s', l_X11_areAlikeInLast_29 (i32 c) (PS σ f') (i32 i) = _ ∧ _
    unfold l_X11_areAlikeInLast_29
    have hv : (PS σ f').2 322 (6 * c + i) = oi (D i) := by
      rw [PS_2 (by omega)]
      exact hD i h2
    rw [i32_6, if_neg (i_nle h2 (by omega)), i32_mul, i32_add, e_gL ln_322 (by omega) (by omega), hv, i32_40, p_puts (by omega) (by omega), e_bs, i32_1, i32_add]
    refine ⟨_, rfl, _, rfl, fun q hq => by rw [uS_ne hq, hf q hq], fun x hx => ?_⟩
    rw [uS_self]
    unfold uV
    by_cases hxi : x = i
    · rw [if_pos hxi, hxi]
    · rw [if_neg hxi]
      exact hd x (by omega)
  · rintro τ ⟨f', rfl, hf, hd⟩
    show ∃ x, l_X11_areAlikeInLast_29 (i32 c) (PS σ f') (i32 6) = _ ∧ _
    unfold l_X11_areAlikeInLast_29
    rw [if_pos (by decide)]
    exact ⟨_, rfl, f', rfl, hf, hd⟩
end QUI
end
section
/-! the reference's alike: columns of weight 3 -/
section SG2
variable {σ : Mem} {G : GD} {f : SF} {m t : Nat}
def GoodC (Q : Int) (lo hi : Nat) (v : Nat → Int) : Prop := (∀ j, j < 6 → (j < lo ∨ hi ≤ j) → v j = 0) ∧ ∀ j, j < 6 → Wi Q (v j)
theorem good3 {Q : Int} {A u : Nat → Int} (hG : GOK G) (hsh : ∀ i, i < gn G → gw G i = wS m t i) (hQ : 0 ≤ Q) (h : ∀ k, k < gn G → gw G k = 3 → Wi Q (cmm G A u k)) : GoodC Q (m + t) (gn G) (vcl G 3 A u) := by
  have hn := hG.2.1
  refine ⟨fun j hj hr => ?_, fun j hj => ?_⟩
  · unfold vcl
    rw [if_pos hj, if_neg (fun q => by
      have a := wS_3.mp ((hsh j q.1).symm.trans q.2)
      omega)]
  · unfold vcl
    rw [if_pos hj]
    by_cases h1 : j < gn G ∧ gw G j = 3
    · rw [if_pos h1]
      exact h j h1.1 h1.2
    · rw [if_neg h1]
      exact ⟨by omega, by omega⟩
theorem goodQ {A u : Nat → Int} {h : Nat} (hG : GOK G) (hJ : Jac G) (hsh : ∀ i, i < gn G → gw G i = wS m t i) (hA : ∀ i, i < gn G → gw G i ≤ 2 → (A i).natAbs ≤ 30) (hu : ∀ i, i < gn G → (u i).natAbs ≤ hq m t h i) : GoodC (QN m t (gn G) h : Nat) (m + t) (gn G) (vcl G 3 A u) := by
  refine good3 hG hsh (by have := QN_pos (m := m) (t := t) (n := gn G) (h := h); omega) (fun k hk h3 => ?_)
  exact wi_ab (cmm_ab hG hJ hsh hk (x := c30) (y := hq m t h) hA (fun i hi _ => hu i hi)) (QN_le1 hk ((hsh k hk).symm.trans h3))
theorem goodL {A : Nat → Int} {h x : Nat} (hG : GOK G) (hJ : Jac G) (hsh : ∀ i, i < gn G → gw G i = wS m t i) (hA : ∀ i, i < gn G → gw G i ≤ 2 → (A i).natAbs ≤ 30) (hx : x < gn G) (hx2 : gw G x = 2) : GoodC (QN m t (gn G) h : Nat) (m + t) (gn G) (vcl G 3 A (e1V x)) := by
  refine good3 hG hsh (by have := QN_pos (m := m) (t := t) (n := gn G) (h := h); omega) (fun k hk h3 => ?_)
  exact wi_ab (cmm_ab hG hJ hsh hk (x := c30) (y := u1 x) hA (fun i hi _ => e1V_ab)) (QN_le2 hx hk ((hsh x hx).symm.trans hx2) ((hsh k hk).symm.trans h3))
theorem r_stage2a {D : Nat → Nat → Int} {h qm : Nat} (hG : GOK G) (hJ : Jac G) (hM : MG σ G) (h0 : M0 σ) (hsh : ∀ i, i < gn G → gw G i = wS m t i) (hA : ∀ i, i < gn G → gw G i ≤ 2 → (f 2 i).natAbs ≤ 30) (hqm : qm ≤ 6) (hh : h ≤ 2 ^ 28) (h31 : σ.1 306 31 = 0) (h36 : σ.1 306 36 = i32 qm) (hD : ∀ e, e < qm → ∀ i, i < 6 → σ.2 322 (6 * e + i) = oi (D e i)) (hDb : ∀ e, e < qm → ∀ i, i < gn G → (D e i).natAbs ≤ hq m t h i) : ∃ τ, loopO (fun (z16 : (Mem × Int32)) => l_X11_areAlikeInLast_19 z16.1 z16.2) (PS σ f, i32 0) = some τ ∧ ∃ σ' f' C, τ = PS σ' f' ∧ FCa σ σ' ∧ σ'.1 306 31 = i32 qm ∧ (∀ q, q < 40 → f' q = f q) ∧ Cl σ' C qm ∧ ∀ e, e < qm → GoodC (QN m t (gn G) h : Nat) (m + t) (gn G) (C e) := by
  have hn := hG.2.1
  refine cnt_inv (body := fun (z16 : (Mem × Int32)) => l_X11_areAlikeInLast_19 z16.1 z16.2) (P := fun c τ => ∃ σ' f' C, τ = PS σ' f' ∧ FCa σ σ' ∧ σ'.2 322 = σ.2 322 ∧ σ'.1 306 36 = i32 qm ∧ σ'.1 306 31 = i32 c ∧ (∀ q, q < 40 → f' q = f q) ∧ Cl σ' C c ∧ ∀ e, e < c → GoodC (QN m t (gn G) h : Nat) (m + t) (gn G) (C e)) (a := 0) (b := qm) (by omega) ⟨σ, f, fun _ _ => 0, rfl, FCa.refl, rfl, h36, h31, fun _ _ => rfl, fun c j hc _ => by omega, fun c hc => by omega⟩ ?_ ?_
  · rintro c τ _ h2 ⟨σ', f', C, rfl, fr, r322, g36, g31, hf, hC, hCc⟩
    left
    have hM' := hM.ca fr
    obtain ⟨τ1, e1, f1, rfl, k1, d1⟩ := r_quietPuts (σ := σ') (f := f') (c := c) (D := D c) (by omega) (fun i hi => by rw [r322]; exact hD c h2 i hi)
    have c2 : f1 2 = f 2 := (k1 2 (by omega)).trans (hf 2 (by omega))
    have hu : ∀ i, i < gn G → (f1 40 i).natAbs ≤ hq m t h i := fun i hi => by
      rw [d1 i (by omega)]
      exact hDb c h2 i hi
    obtain ⟨σ2, f2, e2, fr2, q31, k2, hC2, r2, q36⟩ := r_adds (σ := σ') (f := f1) (C := C) (m := c) (s := 2) (b := 40) (w := 3) hG hM' (h0.ca fr) (by omega) hC g31 (by omega) (by omega) (by omega) (B := 2 ^ 28) (by omega) (by omega) (by
      rw [c2]
      intro j hj hj1
      have := hA j hj (by omega)
      omega) (by
      intro j hj hj1
      have a := hu j hj
      have b : hq m t h j ≤ h := by
        unfold hq
        rw [beq_t ((hsh j hj).symm.trans hj1)]
        exact Nat.le_refl _
      omega)
    have e2' : f_X11_adds (PS σ' f1) 2 40 3 = some (PS σ2 f2) := e2
    have g36' : (PS σ' f').1 306 36 = i32 qm := g36
    show ∃ s', l_X11_areAlikeInLast_19 (PS σ' f') (i32 c) = _ ∧ _
    unfold l_X11_areAlikeInLast_19
    rw [e_gF, g36', if_neg (i_nle h2 (by omega)), show (0 : Int32) = i32 0 from rfl, e1, e_bs]
    unfold j_X11_areAlikeInLast_59
    rw [e2', e_bs, i32_1, i32_add]
    refine ⟨_, rfl, σ2, f2, _, rfl, fr.trans fr2, r2.trans r322, q36.trans g36, q31, fun q hq => by rw [k2 q (by omega), k1 q (by omega), hf q hq], hC2, fun e he => ?_⟩
    by_cases hec : e = c
    · rw [hec, adC_m]
      exact goodQ hG hJ hsh (by rw [c2]; exact hA) hu
    · rw [adC_n hec]
      exact hCc e (by omega)
  · rintro τ ⟨σ', f', C, rfl, fr, r322, g36, g31, hf, hC, hCc⟩
    have g36' : (PS σ' f').1 306 36 = i32 qm := g36
    show ∃ x, l_X11_areAlikeInLast_19 (PS σ' f') (i32 qm) = _ ∧ _
    unfold l_X11_areAlikeInLast_19
    rw [e_gF, g36', if_pos (i_le (Nat.le_refl _) (by omega))]
    exact ⟨_, rfl, σ', f', C, rfl, fr, g31, hf, hC, hCc⟩
theorem r_stage2b {C0 : Nat → Nat → Int} {h qm : Nat} (hG : GOK G) (hJ : Jac G) (hM : MG σ G) (h0 : M0 σ) (hsh : ∀ i, i < gn G → gw G i = wS m t i) (hmt : m + t ≤ gn G) (hA : ∀ i, i < gn G → gw G i ≤ 2 → (f 2 i).natAbs ≤ 30) (hqm : qm ≤ 6) (h31 : σ.1 306 31 = i32 qm) (hC0 : Cl σ C0 qm) (hg0 : ∀ e, e < qm → GoodC (QN m t (gn G) h : Nat) (m + t) (gn G) (C0 e)) : ∃ τ, loopO (fun (z9 : (Mem × Int32)) => l_X11_areAlikeInLast_75 z9.1 z9.2) (PS σ f, i32 0) = some τ ∧ ∃ σ' f' C, τ = PS σ' f' ∧ FCa σ σ' ∧ σ'.1 306 31 = i32 (qm + t) ∧ (∀ q, q < 40 → f' q = f q) ∧ Cl σ' C (qm + t) ∧ ∀ e, e < qm + t → GoodC (QN m t (gn G) h : Nat) (m + t) (gn G) (C e) := by
  have hn := hG.2.1
  refine cnt_inv (body := fun (z9 : (Mem × Int32)) => l_X11_areAlikeInLast_75 z9.1 z9.2) (P := fun i τ => ∃ σ' f' C, τ = PS σ' f' ∧ FCa σ σ' ∧ σ'.1 306 31 = i32 (qm + (min i (m + t) - min i m)) ∧ (∀ q, q < 40 → f' q = f q) ∧ Cl σ' C (qm + (min i (m + t) - min i m)) ∧ ∀ e, e < qm + (min i (m + t) - min i m) → GoodC (QN m t (gn G) h : Nat) (m + t) (gn G) (C e)) (a := 0) (b := gn G) (by omega) ⟨σ, f, C0, rfl, FCa.refl, by rw [h31, Nat.zero_min, Nat.zero_min]; rfl, fun _ _ => rfl, by rw [Nat.zero_min, Nat.zero_min]; exact hC0, fun e he => hg0 e (by omega)⟩ ?_ ?_
  · rintro i τ _ h2 ⟨σ', f', C, rfl, fr, q31, hf, hC, hCc⟩
    left
    have hM' := hM.ca fr
    have hg := hsh i h2
    have hg3 := (hG.2.2.1 i h2).2
    show ∃ s', l_X11_areAlikeInLast_75 (PS σ' f') (i32 i) = _ ∧ _
    unfold l_X11_areAlikeInLast_75
    rw [e_n (PS_MG hM'), e_bs, if_neg (i_nle h2 (by omega)), e_weight (PS_MG hM') (by omega), e_bs]
    by_cases him : m ≤ i ∧ i < m + t
    · have hw2 : gw G i = 2 := hg.trans (wS_2.mpr him)
      obtain ⟨f1, e1, a1, b1⟩ := r_letterAt (σ := σ') (f := f') (s := 40) (i := i) (by omega) (by omega)
      have c2 : f1 2 = f 2 := (b1 2 (by omega)).trans (hf 2 (by omega))
      obtain ⟨σ2, f2, e2, fr2, g31, k2, hC2, _, _⟩ := r_adds (σ := σ') (f := f1) (C := C) (m := qm + (min i (m + t) - min i m)) (s := 2) (b := 40) (w := 3) hG hM' (h0.ca fr) (by omega) hC q31 (by omega) (by omega) (by omega) (B := 30) (by omega) (by omega) (by
        rw [c2]
        intro j hj hj1
        have := hA j hj (by omega)
        omega) (by rw [a1]; exact e1V_sb)
      have e1' : f_X11_letterAt (PS σ' f') 40 (i32 i) 1 = some (PS σ' f1) := e1
      have e2' : f_X11_adds (PS σ' f1) 2 40 3 = some (PS σ2 f2) := e2
      have hmin : qm + (min (i + 1) (m + t) - min (i + 1) m) = qm + (min i (m + t) - min i m) + 1 := by omega
      rw [hw2, if_pos i32_2.symm, e1', e_bs, e2', e_bs, e_bs]
      unfold j_X11_areAlikeInLast_111
      rw [i32_1, i32_add]
      refine ⟨_, rfl, σ2, f2, _, rfl, fr.trans fr2, by rw [hmin]; exact g31, fun q hq => by rw [k2 q (by omega), b1 q (by omega), hf q hq], by rw [hmin]; exact hC2, fun e he => ?_⟩
      by_cases hec : e = qm + (min i (m + t) - min i m)
      · rw [hec, adC_m, a1]
        exact goodL hG hJ hsh (by rw [c2]; exact hA) h2 hw2
      · rw [adC_n hec]
        exact hCc e (by omega)
    · have hmin : qm + (min (i + 1) (m + t) - min (i + 1) m) = qm + (min i (m + t) - min i m) := by omega
      have hg2 : ¬ gw G i = 2 := fun q => him (wS_2.mp (hg.symm.trans q))
      rw [if_neg (i_ne2 hg2 (by omega)), e_bs]
      unfold j_X11_areAlikeInLast_111
      rw [i32_1, i32_add]
      exact ⟨_, rfl, σ', f', C, rfl, fr, by rw [hmin]; exact q31, hf, by rw [hmin]; exact hC, by rw [hmin]; exact hCc⟩
  · rintro τ ⟨σ', f', C, rfl, fr, q31, hf, hC, hCc⟩
    have hM' := hM.ca fr
    have hmin : qm + (min (gn G) (m + t) - min (gn G) m) = qm + t := by omega
    rw [hmin] at q31 hC hCc
    show ∃ x, l_X11_areAlikeInLast_75 (PS σ' f') (i32 (gn G)) = _ ∧ _
    unfold l_X11_areAlikeInLast_75
    rw [e_n (PS_MG hM'), e_bs, if_pos (i_le (Nat.le_refl _) (by omega))]
    exact ⟨_, rfl, σ', f', C, rfl, fr, q31, hf, hC, hCc⟩
end SG2
end
section
/-! the reference's alike ends -/
section TTL
variable {σ : Mem} {G : GD} {f : SF} {m t : Nat}
theorem PS_cg {g : SF} (h : ∀ q i, q < 100 → i < 6 → oi (f q i) = oi (g q i)) : PS σ f = PS σ g := by
  unfold PS
  refine congrArg (Prod.mk σ.1) ?_
  funext x y
  by_cases h1 : x = 313 ∧ y < 600
  · rw [if_pos h1, if_pos h1]
    exact h _ _ (by omega) (by omega)
  · rw [if_neg h1, if_neg h1]
theorem PS_of {τ : Mem} (h : τ.2 313 = (PS σ f).2 313) : PS τ f = τ := by
  unfold PS
  refine Prod.ext rfl ?_
  funext x y
  show (if x = 313 ∧ y < 600 then oi (f (y / 6) (y % 6)) else τ.2 x y) = τ.2 x y
  by_cases h1 : x = 313 ∧ y < 600
  · rw [if_pos h1, h1.1, h]
    show _ = if 313 = 313 ∧ y < 600 then oi (f (y / 6) (y % 6)) else σ.2 313 y
    rw [if_pos ⟨rfl, h1.2⟩]
  · rw [if_neg h1]
theorem r_inLast {D : Nat → Nat → Int} {k : Nat} (hG : GOK G) (hJ : Jac G) (hM : MG σ G) (h0 : M0 σ) (hsh : ∀ i, i < gn G → gw G i = wS m t i) (hmt : m + t ≤ gn G) (hY : ∀ i, i < gn G → -30 ≤ f 1 i ∧ f 1 i ≤ 30) (hk : k ≤ m) (hkt : k ≤ t) (h36 : σ.1 306 36 = i32 (m - k)) (hD : ∀ e, e < m - k → ∀ i, i < 6 → σ.2 322 (6 * e + i) = oi (D e i)) (hDb : ∀ e, e < m - k → ∀ i, i < gn G → (D e i).natAbs ≤ hq m t (hF m (XN m t (gn G)) k) i) : ∃ b τ, f_X11_areAlikeInLast (PS σ f) = some (b, τ) ∧ FCa σ τ := by
  have hn := hG.2.1
  obtain ⟨fh, fq⟩ := fit2 hn hmt hk hkt
  obtain ⟨b, eb, hb⟩ := r_upTo (σ := σ) (f := f) hG hM (w := 2) (s := 2) (y := 1) (by omega) (by omega) (by omega)
  have eb' : f_X11_areAlikeUpTo (PS σ f) 2 2 1 = some b := eb
  unfold f_X11_areAlikeInLast
  rw [eb', e_bs]
  cases b with
  | false => exact ⟨false, PS σ f, by rw [if_neg (by decide)], FCa.ps⟩
  | true =>
    rw [if_pos rfl]
    have hbb := hb rfl
    generalize hA' : (fun i => if i < gn G ∧ gw G i ≤ 2 then f 1 i else f 2 i) = A'
    have hAi : ∀ i, A' i = if i < gn G ∧ gw G i ≤ 2 then f 1 i else f 2 i := fun i => by rw [← hA']
    have eqM : PS σ f = PS σ (uS f 2 A') := PS_cg (fun q i _ _ => by
      by_cases hq : q = 2
      · rw [hq, uS_self, hAi]
        by_cases h1 : i < gn G ∧ gw G i ≤ 2
        · rw [if_pos h1]; exact hbb i h1.1 h1.2
        · rw [if_neg h1]
      · rw [uS_ne hq])
    have g2 : uS f 2 A' 2 = A' := uS_self
    have hA2 : ∀ i, i < gn G → gw G i ≤ 2 → (uS f 2 A' 2 i).natAbs ≤ 30 := fun i hi hw => by
      rw [g2, hAi, if_pos ⟨hi, hw⟩]
      have := hY i hi
      omega
    rw [eqM, e_pF, PS_wI6]
    have frw : FCa σ (wI σ 306 31 0) := FCa.fld (by omega)
    obtain ⟨τ, e1, σ1, f1, C1, rfl, fr1, q31, k1, hC1, hg1⟩ := r_stage2a (σ := wI σ 306 31 0) (f := uS f 2 A') (D := D) (qm := m - k) hG hJ (hM.ca frw) (h0.ca frw) hsh hA2 (by omega) fh (by rw [wI_1, if_pos ⟨rfl, rfl⟩]) (by rw [wI_1, if_neg (by omega)]; exact h36) hD hDb
    have e1' : loopO (fun (z16 : (Mem × Int32)) => l_X11_areAlikeInLast_19 z16.1 z16.2) (PS (wI σ 306 31 0) (uS f 2 A'), 0) = some (PS σ1 f1) := e1
    rw [e1', e_bs]
    unfold j_X11_areAlikeInLast_73
    have hf12 : f1 2 = uS f 2 A' 2 := k1 2 (by omega)
    have FR1 := frw.trans fr1
    obtain ⟨τ, e2, σ2, f2, C2, rfl, fr2, q312, k2, hC2, hg2⟩ := r_stage2b (σ := σ1) (f := f1) (C0 := C1) (qm := m - k) hG hJ (hM.ca FR1) (h0.ca FR1) hsh hmt (by rw [hf12]; exact hA2) (by omega) q31 hC1 hg1
    have e2' : loopO (fun (z9 : (Mem × Int32)) => l_X11_areAlikeInLast_75 z9.1 z9.2) (PS σ1 f1, 0) = some (PS σ2 f2) := e2
    rw [e2', e_bs]
    unfold j_X11_areAlikeInLast_117
    have FR2 := FR1.trans fr2
    obtain ⟨g, e3⟩ := r_laysDueT (σ := σ2) (f := f2) hG (hM.ca FR2) (w := 3) (s := 2) (y := 1) (by omega) (by omega)
    have e3' : f_X11_laysDue (PS σ2 f2) 2 1 3 = some (PS (rwL σ2 321 g) f2) := e3
    rw [e3', e_bs]
    have hC3 : Cl (PS (rwL σ2 321 g) f2) C2 (m - k + t) := fun c j hc hj => by
      rw [PS_2 (by omega), rwL_x (by omega)]
      exact hC2 c j hc hj
    have QP := QN_pos (m := m) (t := t) (n := gn G) (h := hF m (XN m t (gn G)) k)
    obtain ⟨b, τ, e4, fr4, _⟩ := r_canMakeZ (σ := PS (rwL σ2 321 g) f2) (X := (QN m t (gn G) (hF m (XN m t (gn G)) k) : Nat)) (m := m - k + t) (lo := m + t) (hi := gn G) (T := fun _ => False) (Z := fun _ => False) (C0 := C2) QP (by omega) hC3 q312 ⟨Or.inl rfl, fun c _ hc j hj hr => (hg2 c hc).1 j hj hr, fun c _ hc j hj => (hg2 c hc).2 j hj, fun _ _ _ _ hj => hj.elim, fun _ _ _ _ _ _ _ _ hj => hj.elim⟩ (fun _ _ _ hj => hj.elim) (fun p p1 p2 => fq p (by omega) (by omega))
    rw [e4, e_bq]
    exact ⟨b, τ, rfl, FR2.trans ((FCa.row (by omega)).trans (FCa.ps.trans fr4.cq.ca))⟩
theorem r_areAlikeT (hG : GOK G) (hJ : Jac G) (hM : MG σ G) (h0 : M0 σ) (hA : ∀ i, i < gn G → -30 ≤ f 0 i ∧ f 0 i ≤ 30) (hY : ∀ i, i < gn G → -30 ≤ f 1 i ∧ f 1 i ≤ 30) : ∃ b τ, f_X11_areAlike (PS σ f) = some (b, τ) ∧ FCa σ τ := by
  have hn := hG.2.1
  obtain ⟨m, t, hmt, hsh⟩ := shape_of hG
  obtain ⟨b, eb, _⟩ := r_upTo (σ := σ) (f := f) hG hM (w := 1) (s := 0) (y := 1) (by omega) (by omega) (by omega)
  have eb' : f_X11_areAlikeUpTo (PS σ f) 1 0 1 = some b := eb
  unfold f_X11_areAlike
  rw [eb', e_bs]
  cases b with
  | false => exact ⟨false, PS σ f, by rw [if_neg (by decide)], FCa.ps⟩
  | true =>
    rw [if_pos rfl, e_pF, PS_wI6]
    have frw : FCa σ (wI σ 306 31 0) := FCa.fld (by omega)
    obtain ⟨τ, e1, σ1, f1, C1, rfl, fr1, q31, k1, hC1, hc1⟩ := r_stage1 (σ := wI σ 306 31 0) (f := f) hG (hM.ca frw) (h0.ca frw) hsh hmt hA (by rw [wI_1, if_pos ⟨rfl, rfl⟩])
    have e1' : loopO (fun (z33 : (Mem × Int32)) => l_X11_areAlike_19 z33.1 z33.2) (PS (wI σ 306 31 0) f, 0) = some (PS σ1 f1) := e1
    rw [e1', e_bs]
    unfold j_X11_areAlike_61
    have FR1 := frw.trans fr1
    obtain ⟨g, e2⟩ := r_laysDueT (σ := σ1) (f := f1) hG (hM.ca FR1) (w := 2) (s := 0) (y := 1) (by omega) (by omega)
    have e2' : f_X11_laysDue (PS σ1 f1) 0 1 2 = some (PS (rwL σ1 321 g) f1) := e2
    rw [e2', e_bs]
    have hC3 : Cl (PS (rwL σ1 321 g) f1) C1 m := fun c j hc hj => by
      rw [PS_2 (by omega), rwL_x (by omega)]
      exact hC1 c j hc hj
    have XP := XN_pos (m := m) (t := t) (n := gn G)
    obtain ⟨b, τ, e4, fr4, hyes⟩ := r_canMakeZ (σ := PS (rwL σ1 321 g) f1) (X := (XN m t (gn G) : Nat)) (m := m) (lo := m) (hi := m + t) (T := fun j => 12 ≤ j ∧ j < 18) (Z := fun j => 12 + m ≤ j) (C0 := C1) XP (by omega) hC3 q31 (gro1 hG hJ hsh hmt hA hc1) (fun c hc j hj => by
      rw [hc1 c hc]
      unfold vcl
      rw [if_neg (by omega)]
      by_cases h1 : 12 ≤ j ∧ j < 12 + gn G
      · rw [if_pos h1, e1V_at, if_neg (by omega)]
      · rw [if_neg h1]) (fun p p1 p2 => fit1 hn hmt (by omega) (by omega))
    rw [e4, e_bq]
    have FR4 : FCa σ τ := FR1.trans ((FCa.row (by omega)).trans (FCa.ps.trans fr4.cq.ca))
    cases b with
    | false => exact ⟨false, τ, by rw [if_neg (by decide)], FR4⟩
    | true =>
      obtain ⟨k, C, hk, q34, hC, hGr, hZ⟩ := hyes rfl
      rw [if_pos rfl, e_pF]
      have hkt : k ≤ t := by
        rcases hGr.1 with q | q
        · omega
        · omega
      have s34 : (wI τ 306 36 0).1 306 34 = i32 k := by rw [wI_1, if_neg (by omega)]; exact q34
      have s31 : (wI τ 306 36 0).1 306 31 = i32 m := by
        rw [wI_1, if_neg (by omega), fr4.2.1 31 (by omega) (by omega)]
        exact q31
      obtain ⟨τ2, e5, fr5, r313, r321, s36, hqt⟩ := r_quiet (σ := wI τ 306 36 0) (m := m) (k := k) (by omega) hk s31 (by rw [wI_1, if_pos ⟨rfl, rfl⟩])
      rw [e_gF, s34, e5, e_bs]
      unfold j_X11_areAlike_148
      have FR5 : FCa σ τ2 := FR4.trans ((FCa.fld (by omega)).trans fr5)
      have sl : PS τ2 f1 = τ2 := PS_of (σ := rwL σ1 321 g) (f := f1) (by
        rw [r313]
        exact fr4.2.2 313 (by omega) (by omega))
      have hM5 := hM.ca FR5
      have h05 := h0.ca FR5
      have e6 : f_X11_ones τ2 41 = some (PS τ2 (uS f1 41 (fun _ => 0))) := by
        have := p_ones (σ := τ2) (f := f1) (s := 41) (by omega)
        rw [sl] at this
        exact this
      rw [e6, e_bs]
      obtain ⟨τ, e7, f7, rfl, k7⟩ := r_duePuts (σ := τ2) (f := uS f1 41 (fun _ => 0)) hG hM5
      have e7' : loopO (fun (z17 : (Mem × Int32)) => l_X11_areAlike_156 z17.1 z17.2) (PS τ2 (uS f1 41 (fun _ => 0)), 0) = some (PS τ2 f7) := e7
      rw [e7', e_bs]
      unfold j_X11_areAlike_187
      obtain ⟨f8, e8, k8⟩ := a_conjugates (σ := τ2) (f := f7) hM5 hG h05 (s := 0) (r := 41) (t := 42) (by omega) (by omega) (by omega) (by omega) (by omega)
      have e8' : f_X11_conjugates (PS τ2 f7) 0 41 42 = some (PS τ2 f8) := e8
      have e9 : f_X11_copies (PS τ2 f8) 42 2 = some (PS τ2 (uS f8 2 (f8 42))) := p_copies (σ := τ2) (f := f8) (s := 42) (r := 2) (by omega) (by omega) (by omega)
      rw [e8', e_bs, e9, e_bs]
      have hY9 : ∀ i, i < gn G → -30 ≤ uS f8 2 (f8 42) 1 i ∧ uS f8 2 (f8 42) 1 i ≤ 30 := fun i hi => by
        rw [uS_ne (by omega), k8 1 (by omega), k7 1 (by omega), uS_ne (by omega), k1 1 (by omega)]
        exact hY i hi
      obtain ⟨b, τ3, e10, fr10⟩ := r_inLast (σ := τ2) (f := uS f8 2 (f8 42)) (D := fun e i => C (k + e) (12 + i)) (k := k) hG hJ hM5 h05 hsh hmt hY9 hk hkt s36 (fun e he i hi => by
        rw [hqt e he i hi]
        show τ.2 320 (18 * (k + e) + 12 + i) = _
        rw [show 18 * (k + e) + 12 + i = 18 * (k + e) + (12 + i) by omega]
        exact hC (k + e) (12 + i) (by omega) (by omega)) (fun e he i hi => by
        show (C (k + e) (12 + i)).natAbs ≤ _
        by_cases him : i < m
        · have w := hGr.2.2.2.1 (k + e) (by omega) (by omega) (12 + i) ⟨by omega, by omega⟩
          rw [← gHN_c] at w
          unfold hq hF
          rw [beq_t (wS_1.mpr him), show Nat.ble m k = false from Bool.eq_false_iff.mpr (fun q => by rw [Nat.ble_eq] at q; omega)]
          show (C (k + e) (12 + i)).natAbs ≤ gHN (XN m t (gn G)) k
          have a := w.1
          have b := w.2
          omega
        · rw [hZ (k + e) (by omega) (by omega) (12 + i) (by omega)]
          exact Nat.zero_le _)
      rw [e10, e_bq]
      exact ⟨b, τ3, rfl, FR5.trans fr10⟩
end TTL
end
section
/-! the reference's alike: the call ends -/
section RCL
variable {σ : Mem} {G : GD} {f : SF}
theorem in30 {z : Int} (h : -999 ≤ z ∧ z ≤ 999) : f_X11_isIn σ (oi z) (-30) 30 = some (decide (-30 ≤ z ∧ z ≤ 30)) := by
  have := r_inL (σ := σ) (x := oi z) (l := -30) (u := 30) ⟨by omega, by omega⟩ ⟨by omega, by omega⟩
  rw [oi_toInt (by omega) (by omega)] at this
  exact this
theorem r_in30 (hG : GOK G) (hM : MG σ G) (hA : ∀ i, -999 ≤ f 0 i ∧ f 0 i ≤ 999) (hY : ∀ i, -999 ≤ f 1 i ∧ f 1 i ≤ 999) : ∃ x, loopO (fun (z10 : Int32) => l_X11_alike_44 (PS σ f) z10) 0 = some x ∧ ((x = Sum.inl () ∧ (∀ i, i < gn G → -30 ≤ f 0 i ∧ f 0 i ≤ 30) ∧ ∀ i, i < gn G → -30 ≤ f 1 i ∧ f 1 i ≤ 30) ∨ (x = Sum.inr (-2, PS σ f) ∧ ¬ ∀ i, i < gn G → (-30 ≤ f 0 i ∧ f 0 i ≤ 30) ∧ -30 ≤ f 1 i ∧ f 1 i ≤ 30)) := by
  have hn := hG.2.1
  refine loop_inv (body := fun (z10 : Int32) => l_X11_alike_44 (PS σ f) z10) (fun n z => ∃ i, i ≤ gn G ∧ n = gn G - i ∧ z = i32 i ∧ ∀ k, k < i → (-30 ≤ f 0 k ∧ f 0 k ≤ 30) ∧ -30 ≤ f 1 k ∧ f 1 k ≤ 30) _ ?_ (gn G) 0 ⟨0, by omega, rfl, rfl, fun k hk => absurd hk (Nat.not_lt_zero _)⟩
  rintro n z ⟨i, hi, rfl, rfl, hz⟩
  by_cases hin : i = gn G
  · right
    subst hin
    refine ⟨_, ?_, Or.inl ⟨rfl, fun i hi => (hz i hi).1, fun i hi => (hz i hi).2⟩⟩
    unfold l_X11_alike_44
    rw [e_n (PS_MG hM), e_bs, if_pos (i_le (Nat.le_refl _) (by omega))]
  · have p0 : f_X11_of (PS σ f) 0 (i32 i) = some (oi (f 0 i)) := p_of (s := 0) (by omega) (by omega)
    have p1 : f_X11_of (PS σ f) 1 (i32 i) = some (oi (f 1 i)) := p_of (s := 1) (by omega) (by omega)
    by_cases h1 : -30 ≤ f 0 i ∧ f 0 i ≤ 30
    · by_cases h2 : -30 ≤ f 1 i ∧ f 1 i ≤ 30
      · left
        refine ⟨i32 (i + 1), gn G - (i + 1), by omega, ?_, i + 1, by omega, rfl, rfl, fun k hk => ?_⟩
        · unfold l_X11_alike_44
          rw [e_n (PS_MG hM), e_bs, if_neg (i_nle (by omega) (by omega)), p0, e_bs, in30 (hA i), e_bs, decide_eq_true h1, if_pos rfl, p1, e_bs, in30 (hY i), e_bs, decide_eq_true h2, if_pos rfl, i32_1, i32_add]
        · by_cases hki : k = i
          · rw [hki]; exact ⟨h1, h2⟩
          · exact hz k (by omega)
      · right
        refine ⟨_, ?_, Or.inr ⟨rfl, fun q => h2 (q i (by omega)).2⟩⟩
        unfold l_X11_alike_44
        rw [e_n (PS_MG hM), e_bs, if_neg (i_nle (by omega) (by omega)), p0, e_bs, in30 (hA i), e_bs, decide_eq_true h1, if_pos rfl, p1, e_bs, in30 (hY i), e_bs, decide_eq_false h2, if_neg (by decide)]
    · right
      refine ⟨_, ?_, Or.inr ⟨rfl, fun q => h1 (q i (by omega)).1⟩⟩
      unfold l_X11_alike_44
      rw [e_n (PS_MG hM), e_bs, if_neg (i_nle (by omega) (by omega)), p0, e_bs, in30 (hA i), e_bs, decide_eq_false h1, if_neg (by decide)]
theorem r_alikeC {S : AS} {x y : Int32} (ok : OKS S) (hr : IRef S σ) : ∃ r τ, f_X11_alike σ x y = some (r, τ) ∧ IRef S τ ∧ LO σ τ := by
  have hG : GOK (aG S) := ok.1.1
  have hn : gn (aG S) ≤ 6 := hG.2.1
  have f0 : LO σ (wI σ 306 0 0) := LO.row (by omega)
  unfold f_X11_alike
  rw [e_pF, r_isReg, e_bs]
  cases hx : isReg x with
  | false => exact ⟨-1, _, by rw [if_neg (by decide)], hr.told, f0⟩
  | true =>
    rw [if_pos rfl, r_isReg, e_bs]
    cases hy : isReg y with
    | false => exact ⟨-1, _, by rw [if_neg (by decide)], hr.told, f0⟩
    | true =>
      obtain ⟨b3, τ, e3, q3, l3, _, _, hc3⟩ := r_cons hr.told ok
      rw [if_pos rfl, e3, e_bq]
      cases hb : b3 with
      | false => exact ⟨-1, τ, by rw [if_neg (by decide)], q3, f0.trans l3⟩
      | true =>
        have hJ := Cons.jac hG (hc3.mp hb)
        obtain ⟨p, hp, rfl⟩ := isReg_idx hx
        obtain ⟨q, hq, rfl⟩ := isReg_idx hy
        obtain ⟨⟨f, hf⟩, hI, hL, hM, h0, hRB⟩ := at_slots q3
        have a1 : f_X11_laysRegister τ 0 (i32 p) = some (PS τ (uS f 0 (aR S p))) := by
          have := p_lays (σ := τ) (f := f) hRB ok (s := 0) (by omega) hp
          rw [hf] at this
          exact this
        have a2 : f_X11_laysRegister (PS τ (uS f 0 (aR S p))) 1 (i32 q) = some (PS τ (uS (uS f 0 (aR S p)) 1 (aR S q))) := p_lays (σ := τ) (f := uS f 0 (aR S p)) hRB ok (s := 1) (by omega) hq
        rw [if_pos rfl, a1, e_bs, a2, e_bs]
        have v0 : uS (uS f 0 (aR S p)) 1 (aR S q) 0 = aR S p := by rw [uS_ne (by omega), uS_self]
        have v1 : uS (uS f 0 (aR S p)) 1 (aR S q) 1 = aR S q := uS_self
        generalize uS (uS f 0 (aR S p)) 1 (aR S q) = g at v0 v1 ⊢
        obtain ⟨x, e4, hxx⟩ := r_in30 (σ := τ) (f := g) hG hM (by rw [v0]; exact fun i => ok.1.2.1 p i) (by rw [v1]; exact fun i => ok.1.2.1 q i)
        rw [e4, e_bs]
        rcases hxx with ⟨rfl, hA, hY⟩ | ⟨rfl, _⟩
        · obtain ⟨b, τ2, e5, fr⟩ := r_areAlikeT (σ := τ) (f := g) hG hJ hM h0 hA hY
          show ∃ r τ', j_X11_alike_99 (PS τ g) = some (r, τ') ∧ _
          unfold j_X11_alike_99
          rw [e5, e_bq]
          cases b with
          | true => exact ⟨1, τ2, by rw [if_pos rfl], q3.sr fr.sr, f0.trans (l3.trans fr.sr.lo)⟩
          | false => exact ⟨0, τ2, by rw [if_neg (by decide)], q3.sr fr.sr, f0.trans (l3.trans fr.sr.lo)⟩
        · exact ⟨-2, PS τ g, rfl, hI g, f0.trans (l3.trans (hL g))⟩
end RCL
end
section
/-! the class's lattices end whatever their numbers are -/
section LAT
variable {σ : Mem} {a n : Nat}
theorem t_floorDiv {x y : Int64} (h : y ≠ 0) : ∃ v, f_J9_floorDiv_f86c9 σ x y = some v := by
  unfold f_J9_floorDiv_f86c9
  rw [e_nzL h, e_bd]
  split
  · exact ⟨_, rfl⟩
  · split
    · exact ⟨_, rfl⟩
    · exact ⟨_, rfl⟩
/-- one row alone has changed -/
def FRo (x : Nat) (σ τ : Mem) : Prop := τ.1 = σ.1 ∧ ∀ y, y ≠ x → τ.2 y = σ.2 y
theorem FRo.refl {x : Nat} : FRo x σ σ := ⟨rfl, fun _ _ => rfl⟩
theorem FRo.trans {x : Nat} {τ υ : Mem} (h : FRo x σ τ) (k : FRo x τ υ) : FRo x σ υ := ⟨k.1.trans h.1, fun y hy => (k.2 y hy).trans (h.2 y hy)⟩
theorem FRo.la {x : Nat} {τ : Mem} (h : FRo x σ τ) (h1 : a + 2 ≤ x) (h2 : x ≤ a + 8) : FLa a σ τ := ⟨h.1, fun y hy => h.2 y (fun q => hy ⟨by omega, by omega⟩)⟩
theorem t_take {x c : Nat} (hL : LA a) (hn : n ≤ 6) (h0 : σ.1 a 0 = i32 n) (hc : c < 6) (hx : ln x = 6) (hxc : x ≠ a + 2 + c) : ∃ τ, f_X3_takeStep σ a x (i32 c) = some τ ∧ FRo x σ τ := by
  have hlc := hL.2.2.2.2 c (by omega)
  unfold f_X3_takeStep
  rw [e_gRL hL hc, e_gL hlc hc (by omega)]
  by_cases h : σ.2 (a + 2 + c) c = 0
  · rw [if_pos h]
    exact ⟨σ, rfl, FRo.refl⟩
  · obtain ⟨v, ev⟩ := t_floorDiv (σ := σ) (x := σ.2 x c) h
    rw [if_neg h, e_gRL hL hc, e_gL hx hc (by omega), e_gRL hL hc, e_gL hlc hc (by omega), ev, e_bs, c_sub hn h0 hx hlc hxc, e_bs]
    exact ⟨_, rfl, rfl, fun y hy => rwL_x hy⟩
theorem t_meet {c : Nat} (hL : LA a) (hn : n ≤ 6) (h0 : σ.1 a 0 = i32 n) (hc : c < 6) : ∃ τ, f_X3_meet σ a (i32 c) = some τ ∧ FLa a σ τ := by
  have hl6 := hL.2.2.2.2 6 (by omega)
  have hlc := hL.2.2.2.2 c (by omega)
  unfold f_X3_meet
  refine cnt_inv (body := fun (z2 : (Mem × Int32)) => l_X3_meet_2 a (i32 c) z2.1 z2.2) (P := fun _ τ => FLa a σ τ) (a := 0) (b := 1000) (s := σ) (by omega) FLa.refl ?_ ?_
  · intro i τ _ hi fr
    have g0 : τ.1 a 0 = i32 n := by rw [fr.1]; exact h0
    show (∃ s', l_X3_meet_2 a (i32 c) τ (i32 i) = _ ∧ _) ∨ ∃ x, l_X3_meet_2 a (i32 c) τ (i32 i) = _ ∧ _
    unfold l_X3_meet_2
    rw [if_neg (show ¬ (1000 : Int32) ≤ i32 i from i_nle (a := 1000) hi (by omega)), hL.2.1, e_gL hl6 hc (by omega)]
    by_cases h : τ.2 (a + 8) c = 0
    · right
      rw [if_pos h]
      exact ⟨_, rfl, fr⟩
    · left
      obtain ⟨v, ev⟩ := t_floorDiv (σ := τ) (x := τ.2 (a + 2 + c) c) h
      have e1 := c_sub (σ := τ) (a := a) (x := a + 2 + c) (p := a + 8) (t := v) hn g0 hlc hl6 (by omega)
      have f1 : FLa a σ (rwL τ (a + 2 + c) (fun y => if y < n then τ.2 (a + 2 + c) y - v * τ.2 (a + 8) y else τ.2 (a + 2 + c) y)) := fr.trans (FLa.rw (by omega))
      generalize rwL τ (a + 2 + c) (fun y => if y < n then τ.2 (a + 2 + c) y - v * τ.2 (a + 8) y else τ.2 (a + 2 + c) y) = τ1 at e1 f1
      have g1 : τ1.1 a 0 = i32 n := by rw [f1.1]; exact h0
      have e2 := c_swap (σ := τ1) (a := a) (x := a + 2 + c) hn g1 hlc (by rw [hL.2.1]; exact hl6) (by rw [hL.2.1]; omega)
      rw [if_neg h, e_gRL hL hc, e_gRL hL hc, e_gL hlc hc (by omega), e_gL hl6 hc (by omega), ev, e_bs, e1, e_bs, e_gRL hL hc, e2, e_bs, i32_1, i32_add]
      refine ⟨_, rfl, f1.trans ⟨rfl, fun x hx => ?_⟩⟩
      funext y
      show (if x = a + 2 + c then _ else if x = rf a 2 then _ else τ1.2 x y) = _
      rw [if_neg (by omega), if_neg (by rw [hL.2.1]; omega)]
  · intro τ fr
    show ∃ x, l_X3_meet_2 a (i32 c) τ (i32 1000) = _ ∧ _
    unfold l_X3_meet_2
    rw [if_pos (by decide)]
    exact ⟨_, rfl, fr⟩
theorem t_tidyIn {r : Nat} (hL : LA a) (hn : n ≤ 6) (h0 : σ.1 a 0 = i32 n) (hr : r < n) : ∃ τ, loopO (fun (z8 : (Mem × Int32)) => l_X3_tidy_15 a (i32 r) z8.1 z8.2) (σ, i32 (r + 1)) = some τ ∧ FLa a σ τ := by
  refine cnt_inv (body := fun (z8 : (Mem × Int32)) => l_X3_tidy_15 a (i32 r) z8.1 z8.2) (P := fun _ τ => FLa a σ τ) (b := n) (by omega) FLa.refl ?_ ?_
  · intro c τ h1 h2 fr
    left
    have g0 : τ.1 a 0 = i32 n := by rw [fr.1]; exact h0
    obtain ⟨τ2, e2, f2⟩ := t_take (σ := τ) (x := a + 2 + r) (c := c) hL hn g0 (by omega) (hL.2.2.2.2 r (by omega)) (by omega)
    show ∃ s', l_X3_tidy_15 a (i32 r) τ (i32 c) = _ ∧ _
    unfold l_X3_tidy_15
    rw [e_gF, g0, if_neg (i_nle h2 (by omega)), e_gRL hL (by omega), e2, e_bs, i32_1, i32_add]
    exact ⟨_, rfl, fr.trans (f2.la (by omega) (by omega))⟩
  · intro τ fr
    have g0 : τ.1 a 0 = i32 n := by rw [fr.1]; exact h0
    show ∃ x, l_X3_tidy_15 a (i32 r) τ (i32 n) = _ ∧ _
    unfold l_X3_tidy_15
    rw [e_gF, g0, if_pos (i_le (Nat.le_refl _) (by omega))]
    exact ⟨_, rfl, fr⟩
theorem t_tidy (hL : LA a) (hn : n ≤ 6) (h0 : σ.1 a 0 = i32 n) : ∃ τ, f_X3_tidy σ a = some τ ∧ FLa a σ τ := by
  unfold f_X3_tidy
  rw [e_gF, h0, e_bd]
  refine loop_inv (body := fun (z4 : (Mem × Int32)) => l_X3_tidy_7 a z4.1 z4.2) (fun k z => ∃ τ, k ≤ n ∧ z = (τ, i32 k - 1) ∧ FLa a σ τ) (fun τ => FLa a σ τ) ?_ n (σ, i32 n - 1) ⟨σ, Nat.le_refl _, rfl, FLa.refl⟩
  rintro k z ⟨τ, hk, rfl, fr⟩
  have g0 : τ.1 a 0 = i32 n := by rw [fr.1]; exact h0
  cases k with
  | zero =>
    right
    refine ⟨τ, ?_, fr⟩
    show l_X3_tidy_7 a τ (i32 0 - 1) = _
    unfold l_X3_tidy_7
    rw [if_pos (by decide)]
  | succ k =>
    left
    obtain ⟨τ2, e2, f2⟩ := t_tidyIn (σ := τ) (r := k) hL hn g0 (by omega)
    refine ⟨(τ2, i32 k - 1), k, by omega, ?_, τ2, by omega, rfl, fr.trans f2⟩
    show l_X3_tidy_7 a τ (i32 (k + 1) - 1) = _
    have dn : (i32 (k + 1) - 1 : Int32) = i32 k := by rw [i32_1, i32_sub (by omega)]; rfl
    rw [dn]
    unfold l_X3_tidy_7
    rw [if_neg (show ¬ i32 k < 0 from i_nlt (b := 0) (by omega) (by omega)), e_bd, i32_1, i32_add, e2, e_bs]
    unfold j_X3_tidy_40
    rw [show (i32 k + (-1) : Int32) = i32 k - 1 from (Int32.sub_eq_add_neg (i32 k) 1).symm]
    rfl
theorem t_insert {x : Nat} (hL : LA a) (hn : n ≤ 6) (h0 : σ.1 a 0 = i32 n) (hx : ln x = 6) : ∃ τ, f_X3_insert σ a x = some τ ∧ FLa a σ τ := by
  have hl8 := hL.2.2.2.2 6 (by omega)
  obtain ⟨σ1, e1, o1, _⟩ := c_copyRow (σ := σ) (a := x) (b := a + 8) hx hl8
  have f1 : FLa a σ σ1 := ⟨o1.1, fun y hy => o1.2 y (by omega)⟩
  obtain ⟨τ, e2, f2⟩ := cnt_inv (body := fun (z5 : (Mem × Int32)) => l_X3_insert_10 a z5.1 z5.2) (P := fun _ τ => FLa a σ τ) (Q := fun τ => FLa a σ τ) (a := 0) (b := n) (s := σ1) (by omega) f1 (by
    intro c τ _ h2 fr
    left
    have g0 : τ.1 a 0 = i32 n := by rw [fr.1]; exact h0
    have hlc := hL.2.2.2.2 c (by omega)
    obtain ⟨τ2, e2, f2⟩ := t_meet (σ := τ) (c := c) hL hn g0 (by omega)
    have g2 : τ2.1 a 0 = i32 n := by rw [f2.1]; exact g0
    show ∃ s', l_X3_insert_10 a τ (i32 c) = _ ∧ _
    unfold l_X3_insert_10
    rw [e_gF, g0, if_neg (i_nle h2 (by omega)), e2, e_bs, e_gRL hL (by omega), e_gL hlc (by omega) (by omega)]
    split
    · rw [e_bs]
      unfold j_X3_insert_46
      rw [i32_1, i32_add]
      exact ⟨_, rfl, fr.trans f2⟩
    · rw [e_gRL hL (by omega), c_negate hn g2 hlc, e_bs, e_bs]
      unfold j_X3_insert_46
      rw [i32_1, i32_add]
      exact ⟨_, rfl, (fr.trans f2).trans (FLa.rw (by omega))⟩) (by
    intro τ fr
    have g0 : τ.1 a 0 = i32 n := by rw [fr.1]; exact h0
    show ∃ x, l_X3_insert_10 a τ (i32 n) = _ ∧ _
    unfold l_X3_insert_10
    rw [e_gF, g0, if_pos (i_le (Nat.le_refl _) (by omega))]
    exact ⟨_, rfl, fr⟩)
  obtain ⟨τ3, e3, f3⟩ := t_tidy (σ := τ) hL hn (show τ.1 a 0 = i32 n by rw [f2.1]; exact h0)
  unfold f_X3_insert
  rw [hL.2.1, e1, e_bs, show (0 : Int32) = i32 0 from rfl, e2, e_bs]
  unfold j_X3_insert_52
  rw [e3, e_bs]
  exact ⟨_, rfl, f2.trans f3⟩
theorem t_reduce {x : Nat} (hL : LA a) (hn : n ≤ 6) (h0 : σ.1 a 0 = i32 n) (hx : ln x = 6) (hxa : ¬ (a + 2 ≤ x ∧ x ≤ a + 8)) : ∃ b τ, f_X3_reduce σ a x = some (b, τ) ∧ FRo x σ τ := by
  unfold f_X3_reduce
  obtain ⟨y, e, b, τ, rfl, f⟩ := loop_inv (body := fun (z3 : (Mem × Int32 × Int32)) => l_X3_reduce_4 a x z3.1 z3.2.1 z3.2.2) (fun k z => ∃ c τ b, c ≤ n ∧ k = n - c ∧ z = (τ, b2i b, i32 c) ∧ FRo x σ τ) (fun y => ∃ b τ, y = (b, τ) ∧ FRo x σ τ) (by
    rintro k z ⟨c, τ, b, hc, rfl, rfl, fr⟩
    have g0 : τ.1 a 0 = i32 n := by rw [fr.1]; exact h0
    by_cases hcn : c = n
    · right
      subst hcn
      refine ⟨(b, τ), ?_, b, τ, rfl, fr⟩
      show l_X3_reduce_4 a x τ (b2i b) (i32 c) = _
      unfold l_X3_reduce_4
      rw [e_gF, g0, if_pos (i_le (Nat.le_refl _) (by omega))]
      cases b <;> rfl
    · left
      obtain ⟨τ2, e2, f2⟩ := t_take (σ := τ) (x := x) (c := c) hL hn g0 (by omega) hx (by omega)
      have key : ∃ b2 : Bool, l_X3_reduce_4 a x τ (b2i b) (i32 c) = some (Sum.inl (τ2, b2i b2, i32 (c + 1))) := by
        unfold l_X3_reduce_4
        rw [e_gF, g0, if_neg (i_nle (by omega) (by omega)), e2, e_bs]
        have fin : ∀ b2, (some b2 : Option Bool).bind (fun (z7 : Bool) => j_X3_reduce_35 (i32 c) τ2 z7) = some (Sum.inl (τ2, b2i b2, i32 (c + 1))) := fun b2 => by
          rw [e_bs]
          unfold j_X3_reduce_35
          rw [i32_1, i32_add]
        cases b with
        | false => exact ⟨false, by rw [if_pos (show b2i false = 0 from rfl), e_bs]; exact fin false⟩
        | true =>
          rw [if_neg (show ¬ b2i true = 0 by decide), e_gL hx (by omega) (by omega)]
          split
          · exact ⟨true, by rw [e_bs]; exact fin true⟩
          · exact ⟨false, by rw [e_bs]; exact fin false⟩
      obtain ⟨b2, e3⟩ := key
      exact ⟨(τ2, b2i b2, i32 (c + 1)), n - (c + 1), by omega, e3, c + 1, τ2, b2, by omega, rfl, rfl, fr.trans f2⟩) n (σ, 1, 0) ⟨0, σ, true, by omega, rfl, rfl, FRo.refl⟩
  exact ⟨b, τ, e, f⟩
theorem t_hasStep {c : Nat} (hL : LA a) (hn : n ≤ 6) (h0 : σ.1 a 0 = i32 n) (hc : c < 6) : ∃ b, f_X3_hasStep σ a (i32 c) = some b := by
  have hlc := hL.2.2.2.2 c (by omega)
  unfold f_X3_hasStep
  rw [if_neg (show ¬ i32 c < 0 from i_nlt (b := 0) (by omega) (by omega)), e_gF, h0]
  split
  · exact ⟨false, rfl⟩
  · rw [e_gRL hL hc, e_gL hlc hc (by omega)]
    split
    · exact ⟨false, rfl⟩
    · exact ⟨true, rfl⟩
end LAT
end
section
/-! the class's search of alike ends: its small steps -/
section SRT
variable {σ : Mem} {G : GD}
/-- rows of the search alone have changed -/
abbrev OK8 (σ τ : Mem) : Prop := OL (fun x => 80 ≤ x ∧ x ≤ 103) σ τ
/-- gaps that can be reckoned -/
def GGp (σ : Mem) : Prop := ∀ k, k < 6 → ∃ (G : GD) (N : List (Nat × Int)), GS σ (104 + 4 * k) N ∧ NOK G N
theorem GapOK.gg {A Y : Nat → Int} (h : GapOK G σ A Y) : GGp σ := fun k hk => by
  obtain ⟨N, hS, hN, _⟩ := h k hk
  exact ⟨G, N, hS, hN⟩
theorem GGp.keep {τ : Mem} (h : GGp σ) (o : OK8 σ τ) : GGp τ := fun k hk => by
  obtain ⟨G, N, hS, hN⟩ := h k hk
  refine ⟨G, N, ?_, hN⟩
  unfold GS
  rw [o.1, o.2 (104 + 4 * k + 2) (by omega)]
  exact hS
theorem t_value {a t : Nat} {N : List (Nat × Int)} (sp : SP a) (ht : ln t = 64) (hS : GS σ a N) (hN : NOK G N) : ∃ v, f_X9_value σ a t = some v := by
  have hl := hN.len
  obtain ⟨r1, r2, r3, l1, l2, l3⟩ := sp
  unfold f_X9_value
  obtain ⟨v, e, _⟩ := cnt_inv (body := fun (z2 : (Int64 × Int32)) => l_X9_value_5 σ a t z2.1 z2.2) (P := fun _ _ => True) (Q := fun _ => True) (a := 0) (b := N.length) (s := (0 : Int64)) (Nat.zero_le _) trivial (by
    intro q s _ hq _
    left
    show ∃ s', l_X9_value_5 σ a t s (i32 q) = _ ∧ _
    unfold l_X9_value_5
    have hg := List.getElem?_eq_getElem hq
    have hmem := List.getElem_mem hq
    generalize N[q] = p at hg hmem
    have he := hS.2 q p hg
    have hd := (hN.1 p hmem).1
    have h3 : ∀ u, u < 12 → dk p.1 u ≤ 3 := fun u hu => by have := (hd.1 u hu).1; omega
    have hpl := pl_lt (d := dk p.1) 12 (Nat.le_refl _) h3
    have hpl2 : pl (dk p.1) 12 < 64 ^ 3 := Nat.lt_of_lt_of_le hpl (Nat.pow_le_pow_right (by omega) hd.2)
    rw [e_gF, hS.1, if_neg (i_nle hq (by omega)), r3, e_gI l3 (by omega) (by omega), he.2.2, r2, e_gL l2 (by omega) (by omega), he.2.1, i_f0, e_gL ht (by omega) (by omega), i_f1 (by omega), e_gL ht (by omega) (by omega), i_f2 (by omega), e_gL ht (by omega) (by omega), e_bd, i32_1, i32_add]
    exact ⟨_, rfl, trivial⟩) (by
    intro s _
    show ∃ x, l_X9_value_5 σ a t s (i32 N.length) = _ ∧ _
    unfold l_X9_value_5
    rw [e_gF, hS.1, if_pos (i_le (Nat.le_refl _) (by omega))]
    exact ⟨_, rfl, trivial⟩)
  exact ⟨v, e⟩
theorem t_gap (h : GGp σ) {k : Nat} (hk : k < 6) : ∃ v, f_X9_value σ (104 + 4 * k) 100 = some v := by
  obtain ⟨G, N, hS, hN⟩ := h k hk
  exact t_value (SP_gap hk).1 ln_100 hS hN
theorem t_setU {i : Nat} {y : Int64} (hi : i < 6) : ∃ τ, f_X7_setU σ (i32 i) y = some τ ∧ OK8 σ τ := by
  obtain ⟨τ, e, o, _⟩ := c_setU (G := ((0, fun _ => 0, fun _ _ _ => 0) : GD)) (σ := σ) (i := i) (y := y.toInt) (u := fun _ => 0) (p := fun _ => False) hi (fun q => absurd (show (0 : Nat) = 1 from q) (by decide)) ⟨fun _ _ q => q.elim, fun _ => 0, fun _ _ => rfl, fun _ _ q => q.2.elim⟩
  rw [show oi y.toInt = y from Int64.ofInt_toInt y] at e
  exact ⟨τ, e, o.mono (fun x hx => by omega)⟩
theorem t_putU : ∃ τ, f_X7_putU σ 0 = some τ ∧ OK8 σ τ := by
  obtain ⟨τ, e, o, _⟩ := c_putU (G := ((0, fun _ => 0, fun _ _ _ => 0) : GD)) (σ := σ) (y := 0) (by unfold two64ok; omega)
  exact ⟨τ, e, o.mono (fun x hx => by omega)⟩
theorem t_copyGaps {p q x : Nat} (h : GGp σ) (hp : p ≤ 6) (hq : q ≤ 6) (hx : x = 101 ∨ x = 102) : ∃ τ, f_X7_copyGaps σ (i32 p) (i32 q) x = some τ ∧ OK8 σ τ := by
  have lx : ln x = 6 := by rcases hx with rfl | rfl; exact ln_101; exact ln_102
  obtain ⟨σ1, e1, o1, _⟩ := fillL (σ := σ) (a := x) (v := 0) lx (by omega)
  have O1 : OK8 σ σ1 := o1.mono (fun y hy => by omega)
  unfold f_X7_copyGaps
  rw [e1, e_bs]
  refine cnt_inv (body := fun (z3 : (Mem × Int32)) => l_X7_copyGaps_8 (i32 p) (i32 q) x z3.1 z3.2) (P := fun _ τ => OK8 σ τ) (a := 0) (b := q) (by omega) O1 ?_ ?_
  · intro i τ _ h2 o
    show (∃ s', l_X7_copyGaps_8 (i32 p) (i32 q) x τ (i32 i) = _ ∧ _) ∨ ∃ x', l_X7_copyGaps_8 (i32 p) (i32 q) x τ (i32 i) = _ ∧ _
    unfold l_X7_copyGaps_8
    rw [if_neg (i_nle h2 (by omega)), i32_add, i32_6]
    by_cases h6 : 6 ≤ p + i
    · right
      rw [if_pos (i_le h6 (by omega))]
      exact ⟨_, rfl, o⟩
    · left
      obtain ⟨v, ev⟩ := t_gap (h.keep o) (k := p + i) (by omega)
      rw [if_neg (i_nle (by omega) (by omega)), e_gR ln_99 (by omega) (by omega), (SP_gap (show p + i < 6 by omega)).2, ev, e_bs, e_pL lx (by omega) (by omega), i32_1, i32_add]
      exact ⟨_, rfl, o.trans (OL.wL (P := fun y => 80 ≤ y ∧ y ≤ 103) (by omega))⟩
  · intro τ o
    show ∃ x', l_X7_copyGaps_8 (i32 p) (i32 q) x τ (i32 q) = _ ∧ _
    unfold l_X7_copyGaps_8
    rw [if_pos (i_le (Nat.le_refl _) (by omega))]
    exact ⟨_, rfl, o⟩
theorem FLa.ok81 {τ : Mem} (h : FLa 81 σ τ) : OK8 σ τ := ⟨h.1, fun x hx => h.2 x (by omega)⟩
theorem FLa.ok90 {τ : Mem} (h : FLa 90 σ τ) : OK8 σ τ := ⟨h.1, fun x hx => h.2 x (by omega)⟩
theorem t_turnsSub {m : Nat} (hm : m ≤ 6) (h9 : σ.1 80 9 = i32 m) : ∃ τ, loopO (fun (z22 : (Mem × Int32)) => l_X7_findTurns_71 z22.1 z22.2) (σ, i32 0) = some τ ∧ OK8 σ τ := by
  refine cnt_inv (body := fun (z22 : (Mem × Int32)) => l_X7_findTurns_71 z22.1 z22.2) (P := fun _ τ => OK8 σ τ) (a := 0) (b := m) (by omega) OL.refl ?_ ?_
  · intro i τ _ h2 o
    left
    have g9 : τ.1 80 9 = i32 m := by rw [o.1]; exact h9
    show ∃ s', l_X7_findTurns_71 τ (i32 i) = _ ∧ _
    unfold l_X7_findTurns_71
    rw [e_gF, g9, if_neg (i_nle h2 (by omega)), e_gL ln_101 (by omega) (by omega), e_gL ln_102 (by omega) (by omega), e_pL ln_101 (by omega) (by omega), i32_1, i32_add]
    exact ⟨_, rfl, o.trans (OL.wL (P := fun y => 80 ≤ y ∧ y ≤ 103) (by omega))⟩
  · intro τ o
    have g9 : τ.1 80 9 = i32 m := by rw [o.1]; exact h9
    show ∃ x', l_X7_findTurns_71 τ (i32 m) = _ ∧ _
    unfold l_X7_findTurns_71
    rw [e_gF, g9, if_pos (i_le (Nat.le_refl _) (by omega))]
    exact ⟨_, rfl, o⟩
theorem t_findTurns {m t : Nat} (h : GGp σ) (hmt : m + t ≤ 6) (h8 : σ.1 80 8 = i32 m) (h9 : σ.1 80 9 = i32 t) : ∃ τ, f_X7_findTurns σ = some τ ∧ OK8 (wI σ 81 0 (i32 (t + m))) τ := by
  unfold f_X7_findTurns
  obtain ⟨σ1, E, e1, k1, k2, _, _⟩ := c_clear (σ := σ) (a := 81) (n := t + m) LA_81 (by omega)
  rw [e_gF, e_gF, h8, h9, i32_add, e1, e_bs]
  have O1 : OK8 (wI σ 81 0 (i32 (t + m))) σ1 := ⟨k1, fun x hx => k2 x (by omega)⟩
  have gg : GGp (wI σ 81 0 (i32 (t + m))) := fun k hk => by
    obtain ⟨G, N, hS, hN⟩ := h k hk
    refine ⟨G, N, ?_, hN⟩
    unfold GS
    rw [show (wI σ 81 0 (i32 (t + m))).1 (104 + 4 * k) = σ.1 (104 + 4 * k) from by funext y; rw [wI_1, if_neg (by omega)], show (wI σ 81 0 (i32 (t + m))).1 (104 + 4 * k + 1) = σ.1 (104 + 4 * k + 1) from by funext y; rw [wI_1, if_neg (by omega)], show (wI σ 81 0 (i32 (t + m))).1 (104 + 4 * k + 3) = σ.1 (104 + 4 * k + 3) from by funext y; rw [wI_1, if_neg (by omega)]]
    exact hS
  have w8 : (wI σ 81 0 (i32 (t + m))).1 80 8 = i32 m := by rw [wI_1, if_neg (by omega)]; exact h8
  have w9 : (wI σ 81 0 (i32 (t + m))).1 80 9 = i32 t := by rw [wI_1, if_neg (by omega)]; exact h9
  have w81 : (wI σ 81 0 (i32 (t + m))).1 81 0 = i32 (t + m) := by rw [wI_1, if_pos ⟨rfl, rfl⟩]
  generalize wI σ 81 0 (i32 (t + m)) = ρ at O1 gg w8 w9 w81 ⊢
  refine cnt_inv (body := fun (z5 : (Mem × Int32)) => l_X7_findTurns_18 z5.1 z5.2) (P := fun _ τ => OK8 ρ τ) (a := 0) (b := m) (by omega) O1 ?_ ?_
  · intro i τ _ h2 o
    left
    have q8 : ∀ υ : Mem, OK8 ρ υ → υ.1 80 8 = i32 m := fun υ ho => by rw [ho.1]; exact w8
    have q9 : ∀ υ : Mem, OK8 ρ υ → υ.1 80 9 = i32 t := fun υ ho => by rw [ho.1]; exact w9
    obtain ⟨τ1, a1, p1⟩ := t_putU (σ := τ)
    have P1 := o.trans p1
    obtain ⟨τ2, a2, p2⟩ := t_copyGaps (σ := τ1) (p := m) (q := t) (x := 102) (gg.keep P1) (by omega) (by omega) (by omega)
    have P2 := P1.trans p2
    obtain ⟨τ3, a3, p3⟩ := t_setU (σ := τ2) (i := i) (y := 1) (by omega)
    have P3 := P2.trans p3
    obtain ⟨τ4, a4, p4⟩ := t_copyGaps (σ := τ3) (p := m) (q := t) (x := 101) (gg.keep P3) (by omega) (by omega) (by omega)
    have P4 := P3.trans p4
    obtain ⟨τ5, a5, p5⟩ := t_turnsSub (σ := τ4) (m := t) (by omega) (q9 _ P4)
    have P5 := P4.trans p5
    have a5' : loopO (fun (z22 : (Mem × Int32)) => l_X7_findTurns_71 z22.1 z22.2) (τ4, 0) = some τ5 := a5
    have P6 : OK8 ρ (wL τ5 101 (t + i) 1) := P5.trans (OL.wL (P := fun y => 80 ≤ y ∧ y ≤ 103) (by omega))
    obtain ⟨τ7, a7, p7⟩ := t_insert (σ := wL τ5 101 (t + i) 1) (a := 81) (n := t + m) (x := 101) LA_81 (by omega) (by rw [P6.1]; exact w81) ln_101
    show ∃ s', l_X7_findTurns_18 τ (i32 i) = _ ∧ _
    unfold l_X7_findTurns_18
    rw [e_gF, q8 _ o, if_neg (i_nle h2 (by omega)), a1, e_bs, e_gF, e_gF, q8 _ P1, q9 _ P1, a2, e_bs, a3, e_bs, e_gF, e_gF, q8 _ P3, q9 _ P3, a4, e_bs, a5', e_bs]
    unfold j_X7_findTurns_100
    rw [e_gF, q9 _ P5, i32_6, i32_add, if_neg (i_nle (by omega) (by omega)), e_gF, q9 _ P5, i32_add, e_pL ln_101 (by omega) (by omega), e_bs]
    unfold j_X7_findTurns_123
    rw [a7, e_bs, i32_1, i32_add]
    exact ⟨_, rfl, P6.trans p7.ok81⟩
  · intro τ o
    show ∃ x', l_X7_findTurns_18 τ (i32 m) = _ ∧ _
    unfold l_X7_findTurns_18
    rw [e_gF, show τ.1 80 8 = i32 m from by rw [o.1]; exact w8, if_pos (i_le (Nat.le_refl _) (by omega))]
    exact ⟨_, rfl, o⟩
end SRT
end
