/-! words, texts: the call -/
section TXT
variable {σ : Mem} {w : List Nat}
theorem d_power' {S : AS} {ρ : Mem} {f : SF} {s p q d : Nat} (hG : GOK (aG S)) (hJ : Jac (aG S)) (hR : BR (aG S) (aR S) w ρ) (hw : w.length ≤ 200) (hs : s + 4 < 100) (hL : DE w ρ q d p) (hf : ρ.1 306 20 = -1 → SmV (aG S) (f s)) : ∃ ρ' f' p', f_X11_readPower (PS ρ f) (i32 s) = some (PS ρ' f') ∧ FRr ρ ρ' ∧ (∀ t, t < s → f' t = f t) ∧ DE w ρ' q d p' ∧ p ≤ p' ∧ (ρ'.1 306 20 = -1 → ρ.1 306 20 = -1 ∧ SmV (aG S) (f' s)) := by
  have hL' := hL
  rcases hL.2.2.2.2.2 with n | ⟨t, t1, t2, t3⟩
  · obtain ⟨ρ', f', p', h1, h2, h3, h4, h5, h6⟩ := d_power hG hJ hR hw hs hL rfl (hf n)
    exact ⟨ρ', f', p', h1, h2, h3, h4, h5, fun _ => ⟨n, h6⟩⟩
  · refine ⟨ρ, f, p, ?_, FRr.refl, fun _ _ => rfl, hL', Nat.le_refl _, fun z => by rw [t3] at z; exact absurd z (ne_m1 (by omega))⟩
    unfold f_X11_readPower
    have e : f_X11_isWrong (PS ρ f) = some true := r_isWrong_yes (t := t) (by omega) t3
    rw [e, e_bs, if_pos rfl]
theorem r_times2 {S : AS} {ρ : Mem} {f : SF} {s : Nat} {x v : Nat → Int} (hG : GOK (aG S)) (hR : BR (aG S) (aR S) w ρ) (hs : s < 90) (hf : f s = v) (hf1 : f (s + 1) = x) (sv : SmV (aG S) v) (sx : SmV (aG S) x) : f_X11_times (PS ρ f) (i32 s) (i32 (s + 1)) = some (PS ρ (uS f s (mul (aG S) v x))) := by
  rw [p_times hR.1 hG hR.2.1 (by omega) (by omega) (by omega) (by rw [hf]; exact sv.sb.s30 (by omega)) (by rw [hf1]; exact sx.sb.s30 (by omega)), hf, hf1]
theorem d_wloop {S : AS} {recR : Mem → Int32 → Option Mem} {s d q : Nat} (ok : OKS S) (hJ : Jac (aG S)) (hbt : ∀ x : Nat, x ∈ w → x < 256) (jo : d < 8 → JWo S w recR (d + 1)) (jw : d < 8 → JWw recR) (hd : d ≤ 8) (hs : s ≤ 10 + 2 * d) (hwl : w.length ≤ 200) : ∀ (n p : Nat) (ρ : Mem) (f : SF), w.length - p < n → BR (aG S) (aR S) w ρ → DE w ρ q d p → SmV (aG S) (f s) → ∃ ρ' f' p', loopO (fun (z2 : Mem) => l_X11_readWord_5 recR (i32 s) z2) (PS ρ f) = some (PS ρ' f') ∧ FRr ρ ρ' ∧ (∀ t, t < s → f' t = f t) ∧ DE w ρ' q d p' ∧ p ≤ p' ∧ SmV (aG S) (f' s) := by
  have hG : GOK (aG S) := ok.1.1
  intro n
  induction n with
  | zero => intro p ρ f hn; exact absurd hn (Nat.not_lt_zero _)
  | succ n ih =>
    intro p ρ f hn hR hL sf
    have hL' := hL
    obtain ⟨a1, a2, a3, a4, a5, a6⟩ := hL
    rcases a6 with a6 | ⟨t, t1, t2, t3⟩
    · obtain ⟨q1, hsk⟩ := Sk_ex w (w.length - p) p a2 (Nat.le_refl _)
      have ew : f_X11_isWrong (PS ρ f) = some false := r_isWrong_no a6
      have g21 : (PS ρ f).1 306 21 = i32 p := a3
      have hbody : l_X11_readWord_5 recR (i32 s) (PS ρ f) = if isFa (sn w q1) = true then (o_X11_readFactor recR (PS (wI ρ 306 21 (i32 q1)) f) (i32 (s + 1))).bind (fun (σ7 : Mem) => (f_X11_readPower σ7 (i32 (s + 1))).bind (fun (σ8 : Mem) => (f_X11_isWrong σ8).bind (fun (b9 : Bool) => if b9 then some (Sum.inr σ8) else (f_X11_times σ8 (i32 s) (i32 (s + 1))).bind (fun (σ10 : Mem) => (f_X11_checks σ10 (i32 s)).bind (fun (σ11 : Mem) => some (Sum.inl σ11)))))) else some (Sum.inr (PS (wI ρ 306 21 (i32 q1)) f)) := by
        unfold l_X11_readWord_5
        rw [ew, e_bs, if_neg (by decide), r_skip (σ := PS ρ f) hR.2.2.1 g21 hsk, e_bq, PS_wI, r_isFactor, e_bs, show i32 s + 1 = i32 (s + 1) from by rw [i32_1, i32_add]]
      have fr1 : FRr ρ (wI ρ 306 21 (i32 q1)) := FRr.fld (by omega)
      have de1 := hL'.at hsk.1 hsk.2.1
      cases hfa : isFa (sn w q1) with
      | false =>
        rw [hfa, if_neg (by decide)] at hbody
        exact ⟨_, f, q1, lp_end hbody, fr1, fun _ _ => rfl, de1, hsk.1, sf⟩
      | true =>
        rw [hfa, if_pos rfl] at hbody
        obtain ⟨ρ2, f2, p2, e2, fr2, kf2, de2, hp2, h2⟩ := d_factor (f := f) (s := s + 1) ok hbt jo jw (hR.frr fr1) hd (by omega) de1 hfa
        have hR2 := (hR.frr fr1).frr fr2
        obtain ⟨ρ3, f3, p3, e3, fr3, kf3, de3, hp3, h3⟩ := d_power' (f := f2) (s := s + 1) hG hJ hR2 hwl (by omega) de2 (fun z => (h2 z).2)
        have hR3 := hR2.frr fr3
        have FR := fr1.trans (fr2.trans fr3)
        have hf3 : f3 s = f s := by rw [kf3 s (by omega), kf2 s (by omega)]
        rw [e2, e_bs, e3, e_bs] at hbody
        have hq1 := hsk.1
        rcases de3.2.2.2.2.2 with n3 | ⟨t, t1, t2, t3⟩
        · have ew3 : f_X11_isWrong (PS ρ3 f3) = some false := r_isWrong_no n3
          obtain ⟨h3a, h3b⟩ := h3 n3
          have e4 := r_times2 (ρ := ρ3) (f := f3) (s := s) hG hR3 (by omega) hf3 rfl sf h3b
          rw [ew3, e_bs, if_neg (by decide), e4, e_bs, r_checks_dead de3 hwl (by omega), e_bs] at hbody
          have hlt := (h2 h3a).1
          obtain ⟨ρ', f', p', b1, b2, b3, b4, b5, b6⟩ := ih p3 ρ3 (uS (uS f3 s (mul (aG S) (f s) (f3 (s + 1)))) s O) (by have := de3.2.1; omega) hR3 de3 (by rw [uS_self]; exact SmV.O)
          refine ⟨ρ', f', p', by rw [lp_go hbody]; exact b1, FR.trans b2, fun t ht => ?_, b4, by omega, b6⟩
          rw [b3 t ht, uS_ne (by omega), uS_ne (by omega), kf3 t (by omega), kf2 t (by omega)]
        · have ew3 : f_X11_isWrong (PS ρ3 f3) = some true := r_isWrong_yes (t := t) (by omega) t3
          rw [ew3, e_bs, if_pos rfl] at hbody
          exact ⟨ρ3, f3, p3, lp_end hbody, FR, fun t ht => by rw [kf3 t (by omega), kf2 t (by omega)], de3, by omega, by rw [hf3]; exact sf⟩
    · have ew : f_X11_isWrong (PS ρ f) = some true := r_isWrong_yes (t := t) (by omega) t3
      have hend : l_X11_readWord_5 recR (i32 s) (PS ρ f) = some (Sum.inr (PS ρ f)) := by
        unfold l_X11_readWord_5
        rw [ew, e_bs, if_pos rfl]
      exact ⟨ρ, f, p, lp_end hend, FRr.refl, fun _ _ => rfl, hL', Nat.le_refl _, sf⟩
theorem Sk_ahead {p q r : Nat} (hqp : q ≤ p) (hb : ∀ t, q ≤ t → t < p → sn w t = 32) (h : Sk w p r) : Sk w q r := ⟨Nat.le_trans hqp h.1, h.2.1, fun t t1 t2 => by
  by_cases htp : t < p
  · exact hb t t1 htp
  · exact h.2.2.1 t (by omega) t2, h.2.2.2⟩
theorem j_wloop {S : AS} {recC : Mem → Int32 → Option (Bool × Mem)} {recR : Mem → Int32 → Option Mem} {s d : Nat} (ok : OKS S) (hJ : Jac (aG S)) (hbt : ∀ x : Nat, x ∈ w → x < 256) (jl : d < 8 → JWl S w recC recR (d + 1)) (jo : d < 8 → JWo S w recR (d + 1)) (jw : d < 8 → JWw recR) (hd : d ≤ 8) (hs : s ≤ 10 + 2 * d) (hwl : w.length ≤ 200) : ∀ (n q p m b bc : Nat) (σ ρ : Mem) (f : SF) (v : Nat → Int), w.length - q < n → m ≤ q → q ≤ p → p ≤ w.length → (∀ t, q ≤ t → t < p → sn w t = 32) → BC (aG S) (aR S) w σ → BR (aG S) (aR S) w ρ → σ.1 144 9 = i32 p → BH σ bc → LV ρ d q b → b ≤ q → (bc = b ∨ v = O) → H6 σ (146 + d) v → SmV (aG S) v → f s = v → ∃ r σ' ρ' f', (loopO (fun (z8 : (Mem × Int32)) => l_X5_readWord_26 recC (i32 d) (146 + d) z8.1 z8.2) (σ, i32 m) : Option (Mem ⊕ (Bool × Mem))).bind (Sum.elim (fun (z3 : Mem) => j_X5_readWord_91 recC z3) some) = some (r, σ') ∧ loopO (fun (z2 : Mem) => l_X11_readWord_5 recR (i32 s) z2) (PS ρ f) = some (PS ρ' f') ∧ FRx (Pw d) σ σ' ∧ FRr ρ ρ' ∧ (∀ t, t < s → f' t = f t) ∧ WOut S w d s q r σ' ρ' f' := by
  have hG : GOK (aG S) := ok.1.1
  obtain ⟨rW, rF, rCm, lW, lF, lC⟩ := rows_d hd
  intro n
  induction n with
  | zero => intro q p m b bc σ ρ f v hn; exact absurd hn (Nat.not_lt_zero _)
  | succ n ih =>
    intro q p m b bc σ ρ f v hn hmq hqp hp hbl hC hR h9 h10 hL hb hbv hA sv hf
    obtain ⟨q1, hsk⟩ := Sk_ex w (w.length - p) p hp (Nat.le_refl _)
    have hskq : Sk w q q1 := Sk_ahead hqp hbl hsk
    have hq1 := hsk.1
    have hq1l := hsk.2.1
    -- the reference's body
    have ew : f_X11_isWrong (PS ρ f) = some false := r_isWrong_no hL.2.1
    have g21 : (PS ρ f).1 306 21 = i32 q := hL.1
    have hrb : l_X11_readWord_5 recR (i32 s) (PS ρ f) = if isFa (sn w q1) = true then (o_X11_readFactor recR (PS (wI ρ 306 21 (i32 q1)) f) (i32 (s + 1))).bind (fun (σ7 : Mem) => (f_X11_readPower σ7 (i32 (s + 1))).bind (fun (σ8 : Mem) => (f_X11_isWrong σ8).bind (fun (b9 : Bool) => if b9 then some (Sum.inr σ8) else (f_X11_times σ8 (i32 s) (i32 (s + 1))).bind (fun (σ10 : Mem) => (f_X11_checks σ10 (i32 s)).bind (fun (σ11 : Mem) => some (Sum.inl σ11)))))) else some (Sum.inr (PS (wI ρ 306 21 (i32 q1)) f)) := by
      unfold l_X11_readWord_5
      rw [ew, e_bs, if_neg (by decide), r_skip (σ := PS ρ f) hR.2.2.1 g21 hskq, e_bq, PS_wI, r_isFactor, e_bs, show i32 s + 1 = i32 (s + 1) from by rw [i32_1, i32_add]]
    have fr1 : FRr ρ (wI ρ 306 21 (i32 q1)) := FRr.fld (by omega)
    have hL1 := hL.at (q := q1)
    by_cases hm : m < 200
    · -- the class's body
      have hcb : l_X5_readWord_26 recC (i32 d) (146 + d) σ (i32 m) = if isFa (sn w q1) = true then bq (o_X5_readFactor recC (wI σ 144 9 (i32 q1)) (i32 d)) (fun (b12 : Bool) (σ13 : Mem) => if b12 then bq (f_X5_readPower σ13 (156 + d)) (fun (b15 : Bool) (σ16 : Mem) => if b15 then (f_X0_product σ16 (146 + d) (146 + d) (156 + d)).bind (fun (σ18 : Mem) => (f_X0_isWithin σ18 (146 + d) 999).bind (fun (b19 : Bool) => if b19 then some (Sum.inl (σ18, i32 (m + 1))) else some (Sum.inr (Sum.inl σ18)))) else some (Sum.inr (Sum.inr (false, σ16)))) else some (Sum.inr (Sum.inr (false, σ13)))) else some (Sum.inr (Sum.inr (true, wI σ 144 9 (i32 q1)))) := by
        unfold l_X5_readWord_26
        rw [show (200 : Int32) = i32 200 from rfl, if_neg (i_nle hm (by omega)), c_skip hC.2.1 h9 hsk, e_bq, c_isFactor, e_bs, i32_1, i32_add]
        simp only [e_gR ln_145s.2.1 (show d < 9 by omega) (show 9 < 2 ^ 31 by omega), rF]
      have fx1 : FRx (Pw d) σ (wI σ 144 9 (i32 q1)) := FRx.fld (by omega)
      have g9 : (wI σ 144 9 (i32 q1)).1 144 9 = i32 q1 := by rw [wI_1, if_pos ⟨rfl, rfl⟩]
      have g10 : BH (wI σ 144 9 (i32 q1)) bc := h10.at
      cases hfa : isFa (sn w q1) with
      | false =>
        rw [hfa, if_neg (by decide)] at hcb hrb
        refine ⟨true, _, _, f, by rw [lp_end hcb]; rfl, lp_end hrb, fx1, fr1, fun _ _ => rfl, Or.inl ⟨q1, b, bc, v, rfl, g9, g10, hL1, by omega, by omega, hq1l, hsk.2.2.2, hA, sv, hf, hbv⟩⟩
      | true =>
        rw [hfa, if_pos rfl] at hcb hrb
        have hC1 := hC.frx fx1 (fun x hx => Pw_72 hx)
        have hR1 := hR.frr fr1
        obtain ⟨r2, σ2, ρ2, f2, e2, e3, fx2, fr2, kf2, hfo⟩ := j_factor (f := f) (s := s + 1) ok hJ hbt jl jo jw hC1 hR1 hd (by omega) g9 g10 hL1 hfa
        have FX2 : FRx (Pw d) σ σ2 := fx1.trans (fx2.mono (fun x hx => Pf_Pw hx))
        have FR2 := fr1.trans fr2
        have hR2 := hR1.frr fr2
        have hf2 : f2 s = v := by rw [kf2 s (by omega), hf]
        rw [e2, e_bq] at hcb
        rw [e3, e_bs] at hrb
        rcases hfo with ⟨q2, x, rfl, k9, k10, hL2, hlt2, hq2, hx6, sx, hfx⟩ | ⟨k, t, rfl, hW⟩ | ⟨t, rfl, hO, so⟩
        · rw [if_pos rfl] at hcb
          have hC2 := hC1.frx fx2 (fun x hx => Pf_72 hx)
          obtain ⟨r3, σ3, ρ3, f3, e4, e5, fx3, fr3, kf3, hpo⟩ := j_power (σ := σ2) (ρ := ρ2) (f := f2) (a := 156 + d) (s := s + 1) (p := q2) (b := q2) (bc := q2) (d := d) hG hJ hC2 hR2 hq2 lF (by omega) (by omega) k9 k10 hL2 (Nat.le_refl _) hx6 hfx sx
          have FX3 : FRx (Pw d) σ σ3 := FX2.trans (fx3.mono (fun x hx => by unfold Pw; omega))
          have FR3 := FR2.trans fr3
          have hR3 := hR2.frr fr3
          have hf3 : f3 s = v := by rw [kf3 s (by omega), hf2]
          have hA3 : H6 σ3 (146 + d) v := by
            have h1 : σ3.2 (146 + d) = σ2.2 (146 + d) := fx3.2.2 _ (by omega)
            have h2 : σ2.2 (146 + d) = (wI σ 144 9 (i32 q1)).2 (146 + d) := fx2.2.2 _ (by unfold Pf; omega)
            exact hA.row (by rw [h1, h2]; rfl)
          rw [e4, e_bq] at hcb
          rw [e5, e_bs] at hrb
          rcases hpo with ⟨p', q3, b', v', rfl, m9, m10, hL3, hb3, hq23, hq3p, hp'l, hbl3, hx3, sx3, hfx3⟩ | ⟨k, t, rfl, hW⟩ | ⟨t, rfl, hO, so⟩
          · rw [if_pos rfl] at hcb
            have hC3 := hC2.frx fx3 (P := fun x => (72 ≤ x ∧ x ≤ 79) ∨ x = 156 + d) (fun x hx => by omega)
            have n146 : notSum (146 + d) := fun k hk => by omega
            obtain ⟨σ4, e6, o4, c4⟩ := c_product hG (hC3.poly hG) (out := 146 + d) (a := 146 + d) (b := 156 + d) lW lW lF hA3 hx3 (by omega) n146 (by omega) (by omega) (sv.sb.w hG (by omega)) (sx3.sb.w hG (by omega)) sv.z6
            have zM : Z6 (aG S) (mul (aG S) v v') := Z6.muls hG sv.z6
            have e7 := c_isElement hG lW c4 zM
            have fx4 : FRx (Pw d) σ3 σ4 := o4.frx (fun y hy => by unfold Pw; omega)
            have hC4 := hC3.frx fx4 (fun x hx => Pw_72 hx)
            have e8 := r_times2 (ρ := ρ3) (f := f3) (s := s) hG hR3 (by omega) hf3 hfx3 sv sx3
            have ew3 : f_X11_isWrong (PS ρ3 f3) = some false := r_isWrong_no hL3.2.1
            rw [e6, e_bs, e7, e_bs] at hcb
            rw [ew3, e_bs, if_neg (by decide), e8, e_bs] at hrb
            have n9 : σ4.1 144 9 = i32 p' := by rw [o4.1]; exact m9
            have n10 : BH σ4 b' := m10.of (by rw [o4.1])
            rcases r_checks_live (w := w) (f := uS f3 s (mul (aG S) v v')) (s := s) hG hR3.1 hL3 (by omega) hwl hb3 (by omega) uS_self zM with ⟨hel, e9⟩ | ⟨hel, ρ4, e9, fr4, de4⟩
            · rw [hel, if_pos rfl] at hcb
              rw [e9, e_bs] at hrb
              obtain ⟨r5, σ5, ρ5, f5, b1, b2, b3, b4, b5, b6⟩ := ih q3 p' (m + 1) b' b' σ4 ρ3 _ (nrm (aG S) (mul (aG S) v v')) (by omega) (by omega) hq3p hp'l hbl3 hC4 hR3 n9 n10 hL3 hb3 (Or.inl rfl) (c4.nrm zM) (nrm_sm hel) uS_self
              refine ⟨r5, σ5, ρ5, f5, by rw [lp_go hcb]; exact b1, by rw [lp_go hrb]; exact b2, (FX3.trans fx4).trans b3, FR3.trans b4, fun t ht => by rw [b5 t ht, uS_ne (by omega), uS_ne (by omega), kf3 t (by omega), kf2 t (by omega)], ?_⟩
              rcases b6 with ⟨q', b'', c', v'', x1, x2, x3, x4, x5, x6, x7⟩ | x | x
              · exact Or.inl ⟨q', b'', c', v'', x1, x2, x3, x4, x5, by omega, x7⟩
              · exact Or.inr (Or.inl x)
              · exact Or.inr (Or.inr x)
            · rw [hel, if_neg (by decide)] at hcb
              rw [e9, e_bs] at hrb
              obtain ⟨ρ5, f5, p5, b1, b2, b3, b4, b5, b6⟩ := d_wloop ok hJ hbt jo jw hd hs hwl (w.length - q3 + 1) q3 ρ4 (uS (uS f3 s (mul (aG S) v v')) s O) (by omega) (hR3.frr fr4) de4 (by rw [uS_self]; exact SmV.O)
              refine ⟨false, wI (wI σ4 144 0 5) 144 1 (i32 b'), ρ5, f5, ?_, by rw [lp_go hrb]; exact b1, (FX3.trans fx4).trans ((FRx.fld (by omega)).trans (FRx.fld (by omega))), FR3.trans (fr4.trans b2), fun t ht => by rw [b3 t ht, uS_ne (by omega), uS_ne (by omega), kf3 t (by omega), kf2 t (by omega)], Or.inr (Or.inr ⟨b', rfl, ⟨fail_at.1, fail_at.2, p5, b4⟩, b6⟩)⟩
              rw [lp_end hcb, e_bs]
              show j_X5_readWord_91 recC σ4 = _
              unfold j_X5_readWord_91
              rw [e_gF, n10.1, c_fail, e_bq]
          · rw [if_neg (by decide)] at hcb
            have ew3 : f_X11_isWrong (PS ρ3 f3) = some true := r_isWrong_yes (t := t) (by have := hW.2.2.2.1; omega) hW.2.2.2.2.2.1
            rw [ew3, e_bs, if_pos rfl] at hrb
            exact ⟨false, σ3, ρ3, f3, by rw [lp_end hcb]; rfl, lp_end hrb, FX3, FR3, fun t ht => by rw [kf3 t (by omega), kf2 t (by omega)], Or.inr (Or.inl ⟨k, t, rfl, hW⟩)⟩
          · rw [if_neg (by decide)] at hcb
            obtain ⟨o1, o2, p3, de3⟩ := hO
            rcases de3.2.2.2.2.2 with n3 | ⟨t', t1, t2, t3⟩
            · have ew3 : f_X11_isWrong (PS ρ3 f3) = some false := r_isWrong_no n3
              have e8 := r_times2 (ρ := ρ3) (f := f3) (s := s) hG hR3 (by omega) hf3 rfl sv so
              rw [ew3, e_bs, if_neg (by decide), e8, e_bs, r_checks_dead de3 hwl (by omega), e_bs] at hrb
              obtain ⟨ρ5, f5, p5, b1, b2, b3, b4, b5, b6⟩ := d_wloop ok hJ hbt jo jw hd hs hwl (w.length - p3 + 1) p3 ρ3 (uS (uS f3 s (mul (aG S) v (f3 (s + 1)))) s O) (by omega) hR3 de3 (by rw [uS_self]; exact SmV.O)
              exact ⟨false, σ3, ρ5, f5, by rw [lp_end hcb]; rfl, by rw [lp_go hrb]; exact b1, FX3, FR3.trans b2, fun t ht => by rw [b3 t ht, uS_ne (by omega), uS_ne (by omega), kf3 t (by omega), kf2 t (by omega)], Or.inr (Or.inr ⟨t, rfl, ⟨o1, o2, p5, b4⟩, b6⟩)⟩
            · have ew3 : f_X11_isWrong (PS ρ3 f3) = some true := r_isWrong_yes (t := t') (by omega) t3
              rw [ew3, e_bs, if_pos rfl] at hrb
              exact ⟨false, σ3, ρ3, f3, by rw [lp_end hcb]; rfl, lp_end hrb, FX3, FR3, fun t ht => by rw [kf3 t (by omega), kf2 t (by omega)], Or.inr (Or.inr ⟨t, rfl, ⟨o1, o2, p3, de3⟩, by rw [hf3]; exact sv⟩)⟩
        · rw [if_neg (by decide)] at hcb
          have h20 := hW.2.2.2.2.2.1
          have ht := hW.2.2.2.1
          have ew2 : f_X11_isWrong (PS ρ2 f2) = some true := r_isWrong_yes (t := t) (by omega) h20
          have epw : f_X11_readPower (PS ρ2 f2) (i32 (s + 1)) = some (PS ρ2 f2) := by
            unfold f_X11_readPower
            rw [ew2, e_bs, if_pos rfl]
          rw [epw, e_bs, ew2, e_bs, if_pos rfl] at hrb
          exact ⟨false, σ2, ρ2, f2, by rw [lp_end hcb]; rfl, lp_end hrb, FX2, FR2, fun t ht => kf2 t (by omega), Or.inr (Or.inl ⟨k, t, rfl, hW⟩)⟩
        · rw [if_neg (by decide)] at hcb
          obtain ⟨o1, o2, p2, de2⟩ := hO
          obtain ⟨ρ3, f3, p3, e5, fr3, kf3, de3, hp3, h3⟩ := d_power' (f := f2) (s := s + 1) hG hJ hR2 hwl (by omega) de2 so
          have hR3 := hR2.frr fr3
          have FR3 := FR2.trans fr3
          have hf3 : f3 s = v := by rw [kf3 s (by omega), hf2]
          rw [e5, e_bs] at hrb
          rcases de3.2.2.2.2.2 with n3 | ⟨t', t1, t2, t3⟩
          · have ew3 : f_X11_isWrong (PS ρ3 f3) = some false := r_isWrong_no n3
            have e8 := r_times2 (ρ := ρ3) (f := f3) (s := s) hG hR3 (by omega) hf3 rfl sv (h3 n3).2
            rw [ew3, e_bs, if_neg (by decide), e8, e_bs, r_checks_dead de3 hwl (by omega), e_bs] at hrb
            obtain ⟨ρ5, f5, p5, b1, b2, b3, b4, b5, b6⟩ := d_wloop ok hJ hbt jo jw hd hs hwl (w.length - p3 + 1) p3 ρ3 (uS (uS f3 s (mul (aG S) v (f3 (s + 1)))) s O) (by omega) hR3 de3 (by rw [uS_self]; exact SmV.O)
            exact ⟨false, σ2, ρ5, f5, by rw [lp_end hcb]; rfl, by rw [lp_go hrb]; exact b1, FX2, FR3.trans b2, fun t ht => by rw [b3 t ht, uS_ne (by omega), uS_ne (by omega), kf3 t (by omega), kf2 t (by omega)], Or.inr (Or.inr ⟨t, rfl, ⟨o1, o2, p5, b4⟩, b6⟩)⟩
          · have ew3 : f_X11_isWrong (PS ρ3 f3) = some true := r_isWrong_yes (t := t') (by omega) t3
            rw [ew3, e_bs, if_pos rfl] at hrb
            exact ⟨false, σ2, ρ3, f3, by rw [lp_end hcb]; rfl, lp_end hrb, FX2, FR3, fun t ht => by rw [kf3 t (by omega), kf2 t (by omega)], Or.inr (Or.inr ⟨t, rfl, ⟨o1, o2, p3, de3⟩, by rw [hf3]; exact sv⟩)⟩
    · -- two hundred factors: the text is through
      have hqe : q1 = w.length := by omega
      have hpe : p = w.length := by omega
      have hqw : q = w.length := by omega
      have hfa : isFa (sn w q1) = false := by rw [sn_out (by omega)]; decide
      rw [hfa, if_neg (by decide)] at hrb
      have hcb : l_X5_readWord_26 recC (i32 d) (146 + d) σ (i32 m) = some (Sum.inr (Sum.inr (true, σ))) := by
        unfold l_X5_readWord_26
        rw [show (200 : Int32) = i32 200 from rfl, if_pos (i_le (by omega) (by omega))]
      exact ⟨true, σ, _, f, by rw [lp_end hcb]; rfl, lp_end hrb, FRx.refl, fr1, fun _ _ => rfl, Or.inl ⟨q1, b, bc, v, rfl, by rw [hqe, ← hpe]; exact h9, h10, hL1, by omega, by omega, hq1l, hsk.2.2.2, hA, sv, hf, hbv⟩⟩
theorem w_wrong {recR : Mem → Int32 → Option Mem} {ρ : Mem} {f : SF} {s t : Nat} (hs : s < 100) (ht : t < 2 ^ 31) (h : ρ.1 306 20 = i32 t) : o_X11_readWord recR (PS ρ f) (i32 s) = some (PS ρ (uS f s (fun _ => 0))) := by
  unfold o_X11_readWord
  have ew : f_X11_isWrong (PS ρ (uS f s (fun _ => 0))) = some true := r_isWrong_yes ht h
  have hend : l_X11_readWord_5 recR (i32 s) (PS ρ (uS f s (fun _ => 0))) = some (Sum.inr (PS ρ (uS f s (fun _ => 0)))) := by
    unfold l_X11_readWord_5
    rw [ew, e_bs, if_pos rfl]
  rw [p_ones hs, e_bs]
  exact lp_end (body := fun (z2 : Mem) => l_X11_readWord_5 recR (i32 s) z2) hend
theorem words_ok {S : AS} (ok : OKS S) (hJ : Jac (aG S)) (hbt : ∀ x : Nat, x ∈ w → x < 256) (hwl : w.length ≤ 200) : ∀ (e d nc nr : Nat), d + e = 8 → e < nc → e < nr → JWl S w (f_X5_readWord nc) (f_X11_readWord nr) d ∧ JWo S w (f_X11_readWord nr) d ∧ JWw (f_X11_readWord nr) := by
  have hG : GOK (aG S) := ok.1.1
  intro e
  induction e with
  | zero =>
    intro d nc nr hde hc hr
    obtain ⟨mc, rfl⟩ : ∃ mc, nc = mc + 1 := ⟨nc - 1, by omega⟩
    obtain ⟨mr, rfl⟩ : ∃ mr, nr = mr + 1 := ⟨nr - 1, by omega⟩
    have nd : ¬ d < 8 := by omega
    refine ⟨?_, ?_, fun ρ f s t hs ht h => w_wrong hs ht h⟩
    · intro σ ρ f s p bc br hs hC hR hp h9 h10 hL hb
      obtain ⟨rW, _, _, lW, _, _⟩ := rows_d (d := d) (by omega)
      obtain ⟨σ1, e1, o1, z1⟩ := fillL (σ := σ) (v := 0) lW (by omega)
      have fx1 : FRx (Pw d) σ σ1 := o1.frx (fun y hy => by unfold Pw; omega)
      obtain ⟨r, σ', ρ', f', b1, b2, b3, b4, b5, b6⟩ := j_wloop (recC := f_X5_readWord mc) (recR := f_X11_readWord mr) (s := s) (d := d) ok hJ hbt (fun q => absurd q nd) (fun q => absurd q nd) (fun q => absurd q nd) (by omega) hs hwl (w.length - p + 1) p p 0 br bc σ1 ρ (uS f s O) O (by omega) (Nat.zero_le _) (Nat.le_refl _) hp (fun t h1 h2 => by omega) (hC.frx fx1 (fun x hx => Pw_72 hx)) hR (by rw [o1.1]; exact h9) (h10.of (by rw [o1.1])) hL hb (Or.inr rfl) (fun k hk => z1 k hk) SmV.O uS_self
      refine ⟨r, σ', ρ', f', ?_, ?_, fx1.trans b3, b4, fun t ht => by rw [b5 t ht, uS_ne (by omega)], b6⟩
      · show o_X5_readWord (f_X5_readWord mc) σ (i32 d) = _
        unfold o_X5_readWord
        rw [if_neg (show ¬ i32 d < 0 from i_nlt (b := 0) (by omega) (by omega)), if_pos (show i32 d ≤ 8 from i_le (b := 8) (by omega) (by omega)), e_gR ln_145s.1 (by omega) (by omega), rW, e1, e_bs]
        exact b1
      · show o_X11_readWord (f_X11_readWord mr) (PS ρ f) (i32 s) = _
        unfold o_X11_readWord
        rw [p_ones (by omega), e_bs]
        exact b2
    · intro ρ f s q p hs hR hL
      obtain ⟨ρ', f', p', b1, b2, b3, b4, b5, b6⟩ := d_wloop (recR := f_X11_readWord mr) (s := s) (d := d) ok hJ hbt (fun q => absurd q nd) (fun q => absurd q nd) (by omega) hs hwl (w.length - p + 1) p ρ (uS f s O) (by omega) hR hL (by rw [uS_self]; exact SmV.O)
      refine ⟨ρ', f', p', ?_, b2, fun t ht => by rw [b3 t ht, uS_ne (by omega)], b4, b5, b6⟩
      show o_X11_readWord (f_X11_readWord mr) (PS ρ f) (i32 s) = _
      unfold o_X11_readWord
      rw [p_ones (by omega), e_bs]
      exact b1
  | succ e ih =>
    intro d nc nr hde hc hr
    obtain ⟨mc, rfl⟩ : ∃ mc, nc = mc + 1 := ⟨nc - 1, by omega⟩
    obtain ⟨mr, rfl⟩ : ∃ mr, nr = mr + 1 := ⟨nr - 1, by omega⟩
    obtain ⟨jl, jo, jw⟩ := ih (d + 1) mc mr (by omega) (by omega) (by omega)
    refine ⟨?_, ?_, fun ρ f s t hs ht h => w_wrong hs ht h⟩
    · intro σ ρ f s p bc br hs hC hR hp h9 h10 hL hb
      obtain ⟨rW, _, _, lW, _, _⟩ := rows_d (d := d) (by omega)
      obtain ⟨σ1, e1, o1, z1⟩ := fillL (σ := σ) (v := 0) lW (by omega)
      have fx1 : FRx (Pw d) σ σ1 := o1.frx (fun y hy => by unfold Pw; omega)
      obtain ⟨r, σ', ρ', f', b1, b2, b3, b4, b5, b6⟩ := j_wloop (recC := f_X5_readWord mc) (recR := f_X11_readWord mr) (s := s) (d := d) ok hJ hbt (fun _ => jl) (fun _ => jo) (fun _ => jw) (by omega) hs hwl (w.length - p + 1) p p 0 br bc σ1 ρ (uS f s O) O (by omega) (Nat.zero_le _) (Nat.le_refl _) hp (fun t h1 h2 => by omega) (hC.frx fx1 (fun x hx => Pw_72 hx)) hR (by rw [o1.1]; exact h9) (h10.of (by rw [o1.1])) hL hb (Or.inr rfl) (fun k hk => z1 k hk) SmV.O uS_self
      refine ⟨r, σ', ρ', f', ?_, ?_, fx1.trans b3, b4, fun t ht => by rw [b5 t ht, uS_ne (by omega)], b6⟩
      · show o_X5_readWord (f_X5_readWord mc) σ (i32 d) = _
        unfold o_X5_readWord
        rw [if_neg (show ¬ i32 d < 0 from i_nlt (b := 0) (by omega) (by omega)), if_pos (show i32 d ≤ 8 from i_le (b := 8) (by omega) (by omega)), e_gR ln_145s.1 (by omega) (by omega), rW, e1, e_bs]
        exact b1
      · show o_X11_readWord (f_X11_readWord mr) (PS ρ f) (i32 s) = _
        unfold o_X11_readWord
        rw [p_ones (by omega), e_bs]
        exact b2
    · intro ρ f s q p hs hR hL
      obtain ⟨ρ', f', p', b1, b2, b3, b4, b5, b6⟩ := d_wloop (recR := f_X11_readWord mr) (s := s) (d := d) ok hJ hbt (fun _ => jo) (fun _ => jw) (by omega) hs hwl (w.length - p + 1) p ρ (uS f s O) (by omega) hR hL (by rw [uS_self]; exact SmV.O)
      refine ⟨ρ', f', p', ?_, b2, fun t ht => by rw [b3 t ht, uS_ne (by omega)], b4, b5, b6⟩
      show o_X11_readWord (f_X11_readWord mr) (PS ρ f) (i32 s) = _
      unfold o_X11_readWord
      rw [p_ones (by omega), e_bs]
      exact b1
end TXT
