/-! root, set -/
section RTS
variable {σ : Mem} {G : GD}
theorem ok_9 : Ok_9 II := by
  intro c σ x y m hc ⟨S, ok, h, hr⟩
  have hG : GOK (aG S) := ok.1.1
  obtain ⟨b, hb, hB⟩ := c_cons h
  have em := fun τ : Mem => r_in (σ := τ) (x := m) (l := 1) (u := 99) ⟨by omega, by omega⟩ ⟨by omega, by omega⟩
  unfold f_X10_root
  rw [c_areUsable hb, e_bs]
  by_cases hall : isReg x = true ∧ isReg y = true ∧ b = true
  · obtain ⟨hx, hy, hbt⟩ := hall
    have hcons := hB.mp hbt
    rw [hx, hy, hbt, Bool.and_self, Bool.and_self, if_pos rfl]
    obtain ⟨r, hr10, rfl⟩ := isReg_idx hx
    obtain ⟨p, hp10, rfl⟩ := isReg_idx hy
    by_cases hm : 1 ≤ m.toInt ∧ m.toInt ≤ 99
    · rw [if_neg (fun q => by have := (lt32 (k := 1) (by omega)).mp q; omega), if_pos (show m ≤ 99 from (le32 (k := 99) (by omega)).mpr (by omega))]
      obtain ⟨b1, σ1, e1, o1, hb1, r1⟩ := c_extract hG (out := 176) (x1 := 6 + p) (m := m.toInt64) (z := m.toInt) (c_poly h ok hcons) ln_176 (ln_reg hp10) (c_reg h hp10) (reg_z6 ok p) (by omega) to64 hm
      have s1 := o1.sc (fun x hx => by omega)
      have h1 := h.sc s1
      rw [rt_all hG (reg_z6 ok p)] at hb1
      rw [e_gR ln_5 hp10 (by omega), rf_5 hp10, e1, e_bq]
      have hmem : ∀ σ2, HI σ σ2 → ∃ τ b2 g, f_X11_can σ2 (i32 r) (i32 p) (i32 p) = some (true, τ) ∧ LO σ2 τ ∧ MG τ (aG S) ∧ (∀ g, IRef S (PS τ g)) ∧ (∀ g, LO τ (PS τ g)) ∧ ((f_X11_laysRegister τ 0 (i32 p)).bind (fun (σ4 : Mem) => f_X11_extracts σ4 0 1 m) = some (b2, PS τ g)) ∧ (b2 = true ↔ ∀ k, k < gn (aG S) → rtOK (aG S) (aR S p) m.toInt k) ∧ (b2 = true → g 1 = rtU (aG S) (aR S p) m.toInt (gn (aG S))) := by
        intro σ2 hi2
        obtain ⟨b3, τ, e3, r3, l3, hc3, _⟩ := r_can (hr.hi hi2) ok (x := i32 r) (y := i32 p) (z := i32 p)
        have : b3 = true := hc3.mpr hcons
        subst this
        rw [hx, hy, Bool.and_self, Bool.and_self, Bool.and_self] at e3
        obtain ⟨⟨f, hf⟩, hI, hL, hM, h0, hRB⟩ := at_slots r3
        obtain ⟨b2, g, e5, g5, k5, _⟩ := p_extracts (σ := τ) (f := uS f 0 (aR S p)) hM hG h0 (s := 0) (t := 1) (m := m) (z := m.toInt) (by omega) (by omega) (by omega) rfl hm (by rw [uS_self]; exact reg_sb ok p)
        rw [uS_self] at g5 k5
        refine ⟨τ, b2, g, e3, l3, hM, hI, hL, ?_, g5, k5⟩
        have e6 : f_X11_laysRegister τ 0 (i32 p) = some (PS τ (uS f 0 (aR S p))) := by
          have := p_lays (σ := τ) (f := f) hRB ok (s := 0) (by omega) hp10
          rw [hf] at this
          exact this
        rw [e6, e_bs]
        exact e5
      cases b1 with
      | true =>
        have hk := hb1.mp rfl
        have r1' : H6 σ1 176 (rtU (aG S) (aR S p) m.toInt (gn (aG S))) := fun k hk => by rw [r1 rfl k hk, rtU_6 hG (reg_z6 ok p) k hk]
        have z1 : Z6 (aG S) (rtU (aG S) (aR S p) m.toInt (gn (aG S))) := fun k h1 h2 => rtU_beyond _ h1
        obtain ⟨σ2, e2, i2, hi2⟩ := c_keep h1 ok r1' z1 hr10 hk.2
        obtain ⟨τ, b2, g, e3, l3, hM, hI, hL, e4, hb2, hg⟩ := hmem σ2 (s1.hi.trans hi2)
        have hb2t : b2 = true := hb2.mpr hk.1
        subst hb2t
        have hg1 := hg rfl
        obtain ⟨υ, e5, r5, l5⟩ := r_gives (f := g) (hI g) ok hr10 (s := 1) (by omega)
        rw [hg1, hk.2] at e5
        rw [hg1, hk.2, if_pos rfl] at r5
        rw [if_pos rfl, e2, e_bq, if_pos rfl, e_bs]
        refine ⟨true, σ2, υ, rfl, ?_, nS S r _, nS_ok ok hk.2, i2.lo ((l3.trans (hL _)).trans l5), r5⟩
        unfold f_X11_root
        rw [e3, e_bq, if_pos rfl, show (1 : Int64) = oi 1 from rfl, show (99 : Int64) = oi 99 from rfl, em, e_bs, decide_eq_true hm, if_pos rfl]
        obtain ⟨σ4, e6, e7⟩ := Option.bind_eq_some_iff.mp e4
        have e8 : f_X11_isElement (PS τ g) (i32 1) = some true := by rw [p_isElement hM hG (by omega), hg1, hk.2]
        have e8' : f_X11_isElement (PS τ g) 1 = some true := e8
        have e5' : f_X11_gives (PS τ g) (i32 r) 1 = some (true, υ) := e5
        rw [e6, e_bs, e7, e_bq, if_pos rfl, e8', e_bs, if_pos rfl, e5', e_bq, if_pos rfl, e_bs]
        rfl
      | false =>
        rw [if_neg (by decide), e_bs]
        obtain ⟨τ, b2, g, e3, l3, hM, hI, hL, e4, hb2, hg⟩ := hmem σ1 s1.hi
        obtain ⟨σ4, e6, e7⟩ := Option.bind_eq_some_iff.mp e4
        refine ⟨false, σ1, PS τ g, rfl, ?_, fin_q ok h1 (hI g) (l3.trans (hL _))⟩
        unfold f_X11_root
        rw [e3, e_bq, if_pos rfl, show (1 : Int64) = oi 1 from rfl, show (99 : Int64) = oi 99 from rfl, em, e_bs, decide_eq_true hm, if_pos rfl, e6, e_bs, e7, e_bq]
        cases b2 with
        | false => rfl
        | true =>
          have hel : isEl (aG S) (g 1) = false := by
            rw [hg rfl]
            exact nb (fun q => absurd (hb1.mpr ⟨hb2.mp rfl, q⟩) (by decide))
          have e8 : f_X11_isElement (PS τ g) 1 = some false := by
            have := p_isElement (f := g) hM hG (s := 1) (by omega)
            rw [hel] at this
            exact this
          rw [if_pos rfl, e8, e_bs, if_neg (by decide), e_bs]
          rfl
    · obtain ⟨b3, τ, e3, r3, l3, hc3, _⟩ := r_can hr ok (x := i32 r) (y := i32 p) (z := i32 p)
      have : b3 = true := hc3.mpr hcons
      subst this
      rw [hx, hy, Bool.and_self, Bool.and_self, Bool.and_self] at e3
      refine ⟨false, σ, τ, ?_, ?_, fin_q ok h r3 l3⟩
      · by_cases h1 : m < 1
        · rw [if_pos h1]
        · have h1' : ¬ m.toInt < 1 := fun q => h1 ((lt32 (k := 1) (by omega)).mpr q)
          rw [if_neg h1, if_neg (fun q => by have := (le32 (k := 99) (by omega)).mp q; omega)]
      · unfold f_X11_root
        rw [e3, e_bq, if_pos rfl, show (1 : Int64) = oi 1 from rfl, show (99 : Int64) = oi 99 from rfl, em, e_bs, decide_eq_false hm, if_neg (by decide)]
  · obtain ⟨b3, τ, e3, r3, l3, hc3, _⟩ := r_can hr ok (x := x) (y := y) (z := y)
    have : b3 = b := bool_iff hc3 hB
    subst this
    refine ⟨false, σ, τ, ?_, ?_, fin_q ok h r3 l3⟩
    · rw [and3 hall, if_neg (by decide)]
    · unfold f_X11_root
      rw [e3, e_bq, and4 (fun q => hall ⟨q.1, q.2.1, q.2.2.2⟩), if_neg (by decide)]
theorem uV_el {R : Nat → Int} {k : Nat} {v : Int} (hR : ∀ i, -999 ≤ R i ∧ R i ≤ 999) (hv : -999 ≤ v ∧ v ≤ 999) : ∀ i, -999 ≤ uV R k v i ∧ uV R k v i ≤ 999 := fun i => by
  unfold uV
  split
  · exact hv
  · exact hR i
theorem isEl_small {A : Nat → Int} (h : ∀ i, -999 ≤ A i ∧ A i ≤ 999) : isEl G A = true := by
  unfold isEl
  rw [decide_eq_true_eq]
  intro k _
  have := h k
  have e1 : (-999 : Int64).toInt = -999 := by decide
  have e2 : (999 : Int64).toInt = 999 := by decide
  rw [Int64.le_iff_toInt_le, Int64.le_iff_toInt_le, oi_toInt (by omega) (by omega)]
  omega
theorem ok_3 : Ok_3 II := by
  intro c σ x y v hc ⟨S, ok, h, hr⟩
  have hG : GOK (aG S) := ok.1.1
  have hn : gn (aG S) ≤ 6 := hG.2.1
  obtain ⟨b, hb, hB⟩ := c_cons h
  have ev := fun τ : Mem => r_in (σ := τ) (x := v) (l := -999) (u := 999) ⟨by omega, by omega⟩ ⟨by omega, by omega⟩
  have l999 : v < -999 ↔ v.toInt < -999 := by
    rw [Int32.lt_iff_toInt_lt, show (-999 : Int32).toInt = -999 by decide]
  have z0 : isReg (i32 0) = true := by decide
  have z0' : isReg 0 = true := by decide
  obtain ⟨b3, τ0, e30, r30, l30, hc30, _⟩ := r_can hr ok (x := x) (y := 0) (z := 0)
  have hb3 : b3 = b := bool_iff hc30 hB
  subst hb3
  rw [z0', Bool.true_and, Bool.true_and] at e30
  unfold f_X10_set
  rw [c_isReg, e_bs]
  cases hx : isReg x with
  | false =>
    rw [if_neg (by decide)]
    refine ⟨false, σ, τ0, rfl, ?_, fin_q ok h r30 l30⟩
    unfold f_X11_set
    rw [e30, e_bq, hx, Bool.false_and, if_neg (by decide)]
  | true =>
    obtain ⟨r, hr10, rfl⟩ := isReg_idx hx
    rw [hx, Bool.true_and] at e30
    rw [if_pos rfl, c_isGen h.1.1.1 hn, e_bs]
    -- where the reference refuses
    have ref : (∀ μ : Mem, b3 = true → MG μ (aG S) → (f_X11_n μ).bind (fun (v3 : Int32) => (f_X11_isIn μ (Int32.toInt64 y) 1 (Int32.toInt64 v3)).bind (fun (b4 : Bool) => if b4 then (f_X11_isIn μ (Int32.toInt64 v) (-999) 999).bind (fun (b5 : Bool) => if b5 then (f_X11_laysRegister μ 0 (i32 r)).bind (fun (σ6 : Mem) => (f_X11_puts σ6 0 (y - 1) (Int32.toInt64 v)).bind (fun (σ7 : Mem) => bq (f_X11_gives σ7 (i32 r) 0) (fun (b8 : Bool) (σ9 : Mem) => some (b8, σ9)))) else some (false, μ)) else some (false, μ))) = some (false, μ)) → ∃ r' σ1 σ2, (some (false, σ) : Option (Bool × Mem)) = some (r', σ1) ∧ f_X11_set σ1 (i32 r) y v = some (r', σ2) ∧ II (c + 1) σ2 := by
      intro hq
      refine ⟨false, σ, τ0, rfl, ?_, fin_q ok h r30 l30⟩
      unfold f_X11_set
      rw [e30, e_bq]
      cases hbb : b3 with
      | false => rw [if_neg (by decide)]
      | true =>
        rw [if_pos rfl]
        exact hq τ0 hbb r30.1.mg
    cases hy : isGen (gn (aG S)) y with
    | false =>
      rw [if_neg (by decide)]
      refine ref (fun μ hbt hM => ?_)
      rw [e_n hM, e_bs, r_isGen hn, e_bs, hy, if_neg (by decide)]
    | true =>
      obtain ⟨k, hk, rfl, hk1⟩ := isGen_idx hy
      rw [if_pos rfl, e_gZ hb]
      cases hbb : b3 with
      | false =>
        rw [if_neg (by decide)]
        exact ref (fun μ hbt _ => by rw [hbb] at hbt; exact absurd hbt (by decide))
      | true =>
        rw [if_pos rfl]
        have hcons := hB.mp hbb
        by_cases hv : -999 ≤ v.toInt ∧ v.toInt ≤ 999
        · rw [if_neg (fun q => by have := l999.mp q; omega), if_pos (show v ≤ 999 from (le32 (k := 999) (by omega)).mpr (by omega))]
          have hA := uV_el (R := aR S r) (k := k) (ok.1.2.1 r) hv
          have hel : isEl (aG S) (uV (aR S r) k v.toInt) = true := isEl_small hA
          obtain ⟨σ3, e3, a3, f3⟩ := c_beginAct h.1 h.2.2.1 ok.2.2.1.1
          rw [e3, e_bs, e_gR ln_5 hr10 (by omega), rf_5 hr10, hk1, e_pL (ln_reg hr10) (by omega) (by omega)]
          obtain ⟨q2, q3, q4, q5, q6⟩ := h.rest
          have g : ∀ x, x ≠ 0 → x < 178 ∨ 305 < x → (wL σ3 (6 + r) k v.toInt64).1 x = σ.1 x := fun x h0 hx => f3.1 x h0 hx
          have g2 : ∀ x, (x < 178 ∨ 305 < x) → x ≠ 6 + r → (wL σ3 (6 + r) k v.toInt64).2 x = σ.2 x := fun x hx hn => by rw [← f3.2.1 x hx]; funext y; rw [wL_2, if_neg (fun z => hn z.1)]
          have g0 : ∀ c, c ≠ 4 → c ≠ 5 → (wL σ3 (6 + r) k v.toInt64).1 0 c = σ.1 0 c := fun c c1 c2 => f3.2.2 c c1 c2
          have hI : ICls (c + 1) (nS S r (uV (aR S r) k v.toInt)) (wL σ3 (6 + r) k v.toInt64) := by
            refine ICls.up (ICls.mk ⟨?_, fun q i hq hi => ?_⟩ ⟨q2.eqs (g 16 (by omega) (by omega)), a3.eqs rfl (fun x b1 b2 => rfl) (fun x b1 b2 => by funext y; rw [wL_2, if_neg (by omega)]), ⟨by rw [g0 2 (by omega) (by omega)]; exact q4.1, fun y hy => ⟨(q4.2 y hy).1.eqs (fun x a b => g x (by omega) (by omega)) (fun x a b => g2 x (by omega) (by omega)), (q4.2 y hy).2.eqs (g 32 (by omega) (by omega))⟩⟩, ⟨by rw [g0 7 (by omega) (by omega)]; exact q5.1, fun p x hp => by rw [g 34 (by omega) (by omega)]; exact q5.2 p x hp⟩, by rw [g 144 (by omega) (by omega)]; exact q6.1, by rw [g 144 (by omega) (by omega)]; exact q6.2⟩ (h.law.eqs (fun c _ => by rw [g 40 (by omega) (by omega)]) (fun x hx => g x (by omega) (by omega)) (fun x hx => g2 x (by omega) (by omega))))
            · have := h.1.1
              show CG _ 2 (aG S)
              unfold CG
              rw [g 2 (by omega) (by omega), g (2 + 1) (by omega) (by omega), g (2 + 2) (by omega) (by omega)]
              exact this
            · show (wL σ3 (6 + r) k v.toInt64).2 (6 + q) i = oi (upR (aG S) (aR S) r (uV (aR S r) k v.toInt) q i)
              unfold upR
              by_cases h1 : q = r
              · rw [if_pos h1, h1]
                by_cases h2 : i < gn (aG S)
                · have h3 : oi (oi (uV (aR S r) k v.toInt i)).toInt = oi (uV (aR S r) k v.toInt i) := Int64.ofInt_toInt _
                  rw [if_pos h2, h3, wL_2]
                  unfold uV
                  by_cases h4 : i = k
                  · rw [if_pos ⟨rfl, h4⟩, if_pos h4, to64]
                  · rw [if_neg (fun z => h4 z.2), if_neg h4, f3.2.1 _ (by omega)]
                    exact h.1.2 r i hr10 hi
                · rw [if_neg h2, wL_2, if_neg (by omega), f3.2.1 _ (by omega)]
                  have := h.1.2 r i hr10 hi
                  rw [show 1 + 5 + r = 6 + r by omega] at this
                  rw [this, ok.1.2.2 r i (Nat.le_of_not_lt h2)]
              · rw [if_neg h1, g2 _ (by omega) (by omega)]
                exact h.1.2 q i hq hi
          have hH : HI σ (wL σ3 (6 + r) k v.toInt64) := fun x hx => ⟨g x (by omega) (by omega), g2 x (by omega) (by omega)⟩
          obtain ⟨b5, τ, e5, r5, l5, hc5, _⟩ := r_can (hr.hi hH) ok (x := i32 r) (y := 0) (z := 0)
          have : b5 = true := hc5.mpr hcons
          subst this
          rw [hx, z0', Bool.and_self, Bool.and_self, Bool.and_self] at e5
          obtain ⟨⟨f, hf⟩, hI5, hL, hM, h0, hRB⟩ := at_slots r5
          obtain ⟨υ, e6, r6, l6⟩ := r_gives (f := uS (uS f 0 (aR S r)) 0 (uV (uS f 0 (aR S r) 0) k v.toInt)) (hI5 _) ok hr10 (s := 0) (by omega)
          rw [uS_self, uS_self, hel] at e6
          rw [uS_self, uS_self, hel, if_pos rfl] at r6
          refine ⟨true, _, υ, rfl, ?_, nS S r _, nS_ok ok hel, hI.lo ((l5.trans (hL _)).trans l6), r6⟩
          unfold f_X11_set
          rw [e5, e_bq, if_pos rfl, e_n hM, e_bs, r_isGen hn, e_bs, hy, if_pos rfl, show (-999 : Int64) = oi (-999) from rfl, show (999 : Int64) = oi 999 from rfl, ev, e_bs, decide_eq_true hv, if_pos rfl]
          have e7 : f_X11_laysRegister τ 0 (i32 r) = some (PS τ (uS f 0 (aR S r))) := by
            have := p_lays (σ := τ) (f := f) hRB ok (s := 0) (by omega) hr10
            rw [hf] at this
            exact this
          have e8 : f_X11_puts (PS τ (uS f 0 (aR S r))) 0 (i32 k) (oi v.toInt) = some (PS τ (uS (uS f 0 (aR S r)) 0 (uV (uS f 0 (aR S r) 0) k v.toInt))) := p_puts (σ := τ) (f := uS f 0 (aR S r)) (s := 0) (i := k) (x := v.toInt) (by omega) (by omega)
          rw [uS_self] at e8
          have e6' : f_X11_gives (PS τ (uS (uS f 0 (aR S r)) 0 (uV (aR S r) k v.toInt))) (i32 r) 0 = some (true, υ) := e6
          rw [e7, e_bs, hk1, to64, e8, e_bs, e6', e_bq]
        · have hcl : (if v < -999 then (some (false, σ)) else (if v ≤ 999 then ((f_X10_beginAct σ).bind (fun (σ4 : Mem) => gR 5 (i32 r) (fun (p5 : Nat) => pL σ4 p5 (i32 (k + 1) - 1) (Int32.toInt64 v) (fun (σ6 : Mem) => some (true, σ6))))) else (some (false, σ))) : Option (Bool × Mem)) = some (false, σ) := by
            by_cases h1 : v < -999
            · rw [if_pos h1]
            · have h1' : ¬ v.toInt < -999 := fun q => h1 (l999.mpr q)
              rw [if_neg h1, if_neg (fun q => by have := (le32 (k := 999) (by omega)).mp q; omega)]
          rw [hcl]
          refine ref (fun μ hbt hM => ?_)
          rw [e_n hM, e_bs, r_isGen hn, e_bs, hy, if_pos rfl, show (-999 : Int64) = oi (-999) from rfl, show (999 : Int64) = oi 999 from rfl, ev, e_bs, decide_eq_false hv, if_neg (by decide)]
end RTS
