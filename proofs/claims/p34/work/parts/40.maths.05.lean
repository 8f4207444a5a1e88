section
/-! set, multiply, invert, power, commute, conjugate, root -/
section MLT
variable {σ : Mem} {G : GD}
theorem fin_kept {c : Nat} {S : AS} {r : Nat} {A B : Nat → Int} {τ : Mem} (ok : OKS S) (h : EqG (aG S) A B) (hc : ICls (c + 1) (if isEl (aG S) A = true then nS S r A else ovS S) σ) (hr : IRef (if isEl (aG S) B = true then nS S r B else ovS S) τ) (f : LO σ τ) : II (c + 1) τ := by
  have e1 := isEl_congr h
  have e2 : nS S r A = nS S r B := by unfold nS; rw [upR_congr h]
  rw [e1, e2] at hc
  refine ⟨_, ?_, hc.lo f, hr⟩
  by_cases h1 : isEl (aG S) B = true
  · rw [if_pos h1]; exact nS_ok ok h1
  · rw [if_neg h1]; exact ovS_ok ok
theorem at_slots {S : AS} {τ : Mem} (h : IRef S τ) : (∃ f, PS τ f = τ) ∧ (∀ g, IRef S (PS τ g)) ∧ (∀ g, LO τ (PS τ g)) ∧ MG τ (aG S) ∧ M0 τ ∧ RB τ 307 0 (aX S) := ⟨PS_any τ, fun g => h.sr PS.sr, fun g => PS.sr.lo, h.1.mg, h.2.2.2.2.2.2.2, h.1⟩
theorem ns176 : notSum 176 := fun k hk => by omega
theorem nb {a : Bool} (h : ¬ a = true) : a = false := by cases a; rfl; exact absurd rfl h
theorem and3 {a b c : Bool} (h : ¬ (a = true ∧ b = true ∧ c = true)) : (a && (b && c)) = false := by
  cases a <;> cases b <;> cases c <;> first | rfl | exact absurd ⟨rfl, rfl, rfl⟩ h
theorem and4 {a b c d : Bool} (h : ¬ (a = true ∧ b = true ∧ c = true ∧ d = true)) : (a && (b && (c && d))) = false := by
  cases a <;> cases b <;> cases c <;> cases d <;> first | rfl | exact absurd ⟨rfl, rfl, rfl, rfl⟩ h
theorem ok_4 : Ok_4 II := by
  intro c σ x y z hc ⟨S, ok, h, hr⟩
  have hG : GOK (aG S) := ok.1.1
  obtain ⟨b, hb, hB⟩ := c_cons h
  unfold f_X10_multiply
  rw [c_areUsable hb, e_bs, c_isReg]
  by_cases hall : isReg x = true ∧ isReg y = true ∧ isReg z = true ∧ b = true
  · obtain ⟨hx, hy, hz, hbt⟩ := hall
    rw [hx, hy, hz, hbt, Bool.and_self, Bool.and_self, if_pos rfl, e_bs, if_pos rfl]
    obtain ⟨r, hr10, rfl⟩ := isReg_idx hx
    obtain ⟨p, hp10, rfl⟩ := isReg_idx hy
    obtain ⟨q, hq10, rfl⟩ := isReg_idx hz
    have hcons := hB.mp hbt
    obtain ⟨σ1, e1, o1, r1⟩ := c_product hG (c_poly h ok hcons) (out := 176) (a := 6 + p) (b := 6 + q) ln_176 (ln_reg hp10) (ln_reg hq10) (c_reg h hp10) (c_reg h hq10) (by omega) ns176 (by omega) (by omega) ((reg_sb ok p).w hG (by omega)) ((reg_sb ok q).w hG (by omega)) (reg_z6 ok p)
    have s1 := o1.sc (fun x hx => by omega)
    obtain ⟨σ2, e2, i2, hi2⟩ := c_keepCounted (h.sc s1) ok r1 ((reg_z6 ok p).muls hG) hr10
    obtain ⟨b3, τ, e3, r3, l3, hc3, _⟩ := r_can ((hr.hi s1.hi).hi hi2) ok (x := i32 r) (y := i32 p) (z := i32 q)
    have : b3 = true := hc3.mpr hcons
    subst this
    rw [hx, hy, hz, Bool.and_self, Bool.and_self, Bool.and_self] at e3
    obtain ⟨⟨f, hf⟩, hI, hL, hM, h0, hRB⟩ := at_slots r3
    obtain ⟨υ, e4, r4, l4⟩ := r_gives (f := uS (uS (uS f 0 (aR S p)) 1 (aR S q)) 0 (mul (aG S) (aR S p) (aR S q))) (hI _) ok hr10 (s := 0) (by omega)
    rw [e_gR ln_5 hp10 (by omega), rf_5 hp10, e_gR ln_5 hq10 (by omega), rf_5 hq10, e1, e_bs, e2, e_bq]
    rw [uS_self] at e4 r4
    refine ⟨_, σ2, υ, rfl, ?_, fin_kept ok EqG.refl i2 r4 ((l3.trans (hL _)).trans l4)⟩
    unfold f_X11_multiply
    rw [e3, e_bq, if_pos rfl, ← hf, i32_0, p_lays (σ := τ) hRB ok (by omega) hp10, e_bs, i32_1, p_lays (σ := τ) hRB ok (by omega) hq10, e_bs, p_times hM hG h0 (by omega) (by omega) (by omega) (by rw [uS_ne (by omega), uS_self]; exact (reg_sb ok p).s30 (by omega)) (by rw [uS_self]; exact (reg_sb ok q).s30 (by omega)), e_bs, uS_self, uS_ne (by omega), uS_self, e4, e_bq]
  · obtain ⟨b3, τ, e3, r3, l3, hc3, _⟩ := r_can hr ok (x := x) (y := y) (z := z)
    have : b3 = b := bool_iff hc3 hB
    subst this
    refine ⟨false, σ, τ, ?_, ?_, fin_q ok h r3 l3⟩
    · by_cases h1 : isReg x = true ∧ isReg y = true ∧ b3 = true
      · rw [h1.1, h1.2.1, h1.2.2, Bool.and_self, Bool.and_self, if_pos rfl, e_bs, nb (fun q => hall ⟨h1.1, h1.2.1, q, h1.2.2⟩), if_neg (by decide)]
      · rw [and3 h1, if_neg (by decide)]
    · unfold f_X11_multiply
      rw [e3, e_bq, and4 hall, if_neg (by decide)]
theorem ok_5 : Ok_5 II := by
  intro c σ x y hc ⟨S, ok, h, hr⟩
  have hG : GOK (aG S) := ok.1.1
  obtain ⟨b, hb, hB⟩ := c_cons h
  unfold f_X10_invert
  rw [c_areUsable hb, e_bs]
  by_cases hall : isReg x = true ∧ isReg y = true ∧ b = true
  · obtain ⟨hx, hy, hbt⟩ := hall
    rw [hx, hy, hbt, Bool.and_self, Bool.and_self, if_pos rfl]
    obtain ⟨r, hr10, rfl⟩ := isReg_idx hx
    obtain ⟨p, hp10, rfl⟩ := isReg_idx hy
    have hcons := hB.mp hbt
    obtain ⟨σ1, e1, o1, r1⟩ := c_inverse hG (c_poly h ok hcons) (out := 176) (a := 6 + p) ln_176 (ln_reg hp10) (c_reg h hp10) (by omega) ns176 (by omega) ((reg_sb ok p).w hG (by omega))
    have s1 := o1.sc (fun x hx => by omega)
    obtain ⟨σ2, e2, i2, hi2⟩ := c_keepCounted (h.sc s1) ok r1 Z6.invs hr10
    obtain ⟨b3, τ, e3, r3, l3, hc3, _⟩ := r_can ((hr.hi s1.hi).hi hi2) ok (x := i32 r) (y := i32 p) (z := i32 p)
    have : b3 = true := hc3.mpr hcons
    subst this
    rw [hx, hy, Bool.and_self, Bool.and_self, Bool.and_self] at e3
    obtain ⟨⟨f, hf⟩, hI, hL, hM, h0, hRB⟩ := at_slots r3
    obtain ⟨g, e5, g5, k5⟩ := p_inverse (σ := τ) (f := uS f 0 (aR S p)) hM hG h0 (s := 0) (t := 1) (by omega) (by omega) (by omega) (by omega) (B := 999) (by omega) (by omega) (by rw [uS_self]; exact reg_sb ok p)
    rw [uS_self] at g5
    obtain ⟨υ, e4, r4, l4⟩ := r_gives (f := g) (hI g) ok hr10 (s := 1) (by omega)
    rw [g5] at e4 r4
    rw [e_gR ln_5 hp10 (by omega), rf_5 hp10, e1, e_bs, e2, e_bq]
    refine ⟨_, σ2, υ, rfl, ?_, fin_kept ok EqG.refl i2 r4 ((l3.trans (hL _)).trans l4)⟩
    unfold f_X11_invert
    rw [e3, e_bq, if_pos rfl, ← hf, i32_0, p_lays (σ := τ) hRB ok (by omega) hp10, e_bs, i32_1, e5, e_bs, e4, e_bq]
  · obtain ⟨b3, τ, e3, r3, l3, hc3, _⟩ := r_can hr ok (x := x) (y := y) (z := y)
    have : b3 = b := bool_iff hc3 hB
    subst this
    refine ⟨false, σ, τ, ?_, ?_, fin_q ok h r3 l3⟩
    · rw [and3 hall, if_neg (by decide)]
    · unfold f_X11_invert
      rw [e3, e_bq, and4 (fun q => hall ⟨q.1, q.2.1, q.2.2.2⟩), if_neg (by decide)]
theorem QZ_eq {A : Nat → Int} {z : Int} : EqG G (QZ G A z) (Q G A z) := fun k hk => by
  unfold QZ
  rw [if_pos hk]
theorem QZ_z6 {A : Nat → Int} {z : Int} : Z6 G (QZ G A z) := fun k h1 _ => by
  unfold QZ
  rw [if_neg (by omega)]
theorem ok_6 : Ok_6 II := by
  intro c σ x y m hc ⟨S, ok, h, hr⟩
  have hG : GOK (aG S) := ok.1.1
  obtain ⟨b, hb, hB⟩ := c_cons h
  have em := fun τ : Mem => r_in (σ := τ) (x := m) (l := -99) (u := 99) ⟨by omega, by omega⟩ ⟨by omega, by omega⟩
  have l99 : m < -99 ↔ m.toInt < -99 := by
    rw [Int32.lt_iff_toInt_lt, show (-99 : Int32).toInt = -99 by decide]
  unfold f_X10_power
  rw [c_areUsable hb, e_bs]
  by_cases hall : isReg x = true ∧ isReg y = true ∧ b = true
  · obtain ⟨hx, hy, hbt⟩ := hall
    have hcons := hB.mp hbt
    rw [hx, hy, hbt, Bool.and_self, Bool.and_self, if_pos rfl]
    obtain ⟨r, hr10, rfl⟩ := isReg_idx hx
    obtain ⟨p, hp10, rfl⟩ := isReg_idx hy
    by_cases hm : -99 ≤ m.toInt ∧ m.toInt ≤ 99
    · rw [if_neg (fun q => by have := l99.mp q; omega), if_pos (show m ≤ 99 from (le32 (k := 99) (by omega)).mpr (by omega))]
      obtain ⟨σ1, e1, o1, r1⟩ := c_raise hG (c_poly h ok hcons) (out := 176) (a := 6 + p) (m := m.toInt64) (z := m.toInt) ln_176 (ln_reg hp10) (c_reg h hp10) (by omega) to64 (by omega) (M := 999) (by omega) (by omega) (reg_sb ok p) (reg_z6 ok p)
      have s1 := o1.sc (fun x hx => by omega)
      obtain ⟨σ2, e2, i2, hi2⟩ := c_keepCounted (h.sc s1) ok r1 QZ_z6 hr10
      obtain ⟨b3, τ, e3, r3, l3, hc3, _⟩ := r_can ((hr.hi s1.hi).hi hi2) ok (x := i32 r) (y := i32 p) (z := i32 p)
      have : b3 = true := hc3.mpr hcons
      subst this
      rw [hx, hy, Bool.and_self, Bool.and_self, Bool.and_self] at e3
      obtain ⟨⟨f, hf⟩, hI, hL, hM, h0, hRB⟩ := at_slots r3
      obtain ⟨g, e5, g5, k5⟩ := p_raises (σ := τ) (f := uS f 0 (aR S p)) hM hG h0 (s := 0) (t := 1) (m := m) (z := m.toInt) (by omega) (by omega) (by omega) rfl hm (B := 999) (by omega) (by omega) (by rw [uS_self]; exact reg_sb ok p)
      rw [uS_self] at g5
      obtain ⟨υ, e4, r4, l4⟩ := r_gives (f := g) (hI g) ok hr10 (s := 1) (by omega)
      rw [g5] at e4 r4
      rw [e_gR ln_5 hp10 (by omega), rf_5 hp10, e1, e_bs, e2, e_bq]
      have hE : EqG (aG S) (QZ (aG S) (aR S p) m.toInt) (pw (aG S) (if m.toInt < 0 then inv (aG S) (aR S p) else aR S p) m.toInt.natAbs) := QZ_eq.trans (raises_Q hG (Cons.jac hG hcons)).symm
      refine ⟨isEl (aG S) (QZ (aG S) (aR S p) m.toInt), σ2, υ, rfl, ?_, fin_kept ok hE i2 r4 ((l3.trans (hL _)).trans l4)⟩
      unfold f_X11_power
      rw [e3, e_bq, if_pos rfl, show (-99 : Int64) = oi (-99) from rfl, show (99 : Int64) = oi 99 from rfl, em, e_bs, decide_eq_true hm, if_pos rfl, ← hf, i32_0, p_lays (σ := τ) hRB ok (by omega) hp10, e_bs, i32_1, e5, e_bs, e4, e_bq, isEl_congr hE]
    · obtain ⟨b3, τ, e3, r3, l3, hc3, _⟩ := r_can hr ok (x := i32 r) (y := i32 p) (z := i32 p)
      have : b3 = true := hc3.mpr hcons
      subst this
      rw [hx, hy, Bool.and_self, Bool.and_self, Bool.and_self] at e3
      refine ⟨false, σ, τ, ?_, ?_, fin_q ok h r3 l3⟩
      · by_cases h1 : m < -99
        · rw [if_pos h1]
        · have h1' : ¬ m.toInt < -99 := fun q => h1 (l99.mpr q)
          rw [if_neg h1, if_neg (fun q => by have := (le32 (k := 99) (by omega)).mp q; omega)]
      · unfold f_X11_power
        rw [e3, e_bq, if_pos rfl, show (-99 : Int64) = oi (-99) from rfl, show (99 : Int64) = oi 99 from rfl, em, e_bs, decide_eq_false hm, if_neg (by decide)]
  · obtain ⟨b3, τ, e3, r3, l3, hc3, _⟩ := r_can hr ok (x := x) (y := y) (z := y)
    have : b3 = b := bool_iff hc3 hB
    subst this
    refine ⟨false, σ, τ, ?_, ?_, fin_q ok h r3 l3⟩
    · rw [and3 hall, if_neg (by decide)]
    · unfold f_X11_power
      rw [e3, e_bq, and4 (fun q => hall ⟨q.1, q.2.1, q.2.2.2⟩), if_neg (by decide)]
theorem ok_7 : Ok_7 II := by
  intro c σ x y z hc ⟨S, ok, h, hr⟩
  have hG : GOK (aG S) := ok.1.1
  obtain ⟨b, hb, hB⟩ := c_cons h
  unfold f_X10_commute
  rw [c_areUsable hb, e_bs, c_isReg]
  by_cases hall : isReg x = true ∧ isReg y = true ∧ isReg z = true ∧ b = true
  · obtain ⟨hx, hy, hz, hbt⟩ := hall
    rw [hx, hy, hz, hbt, Bool.and_self, Bool.and_self, if_pos rfl, e_bs, if_pos rfl]
    obtain ⟨r, hr10, rfl⟩ := isReg_idx hx
    obtain ⟨p, hp10, rfl⟩ := isReg_idx hy
    obtain ⟨q, hq10, rfl⟩ := isReg_idx hz
    have hcons := hB.mp hbt
    obtain ⟨σ1, e1, o1, r1⟩ := c_commutator hG (c_poly h ok hcons) (out := 176) (a := 6 + p) (b := 6 + q) ln_176 (ln_reg hp10) (ln_reg hq10) (c_reg h hp10) (c_reg h hq10) (by omega) (by omega) ns176 (by omega) (by omega) (M := 999) (by omega) (by omega) (reg_sb ok p) (reg_sb ok q) (reg_z6 ok p) (reg_z6 ok q)
    have s1 := o1.sc (fun x hx => by omega)
    obtain ⟨σ2, e2, i2, hi2⟩ := c_keepCounted (h.sc s1) ok r1 (Z6.muls hG Z6.invs) hr10
    obtain ⟨b3, τ, e3, r3, l3, hc3, _⟩ := r_can ((hr.hi s1.hi).hi hi2) ok (x := i32 r) (y := i32 p) (z := i32 q)
    have : b3 = true := hc3.mpr hcons
    subst this
    rw [hx, hy, hz, Bool.and_self, Bool.and_self, Bool.and_self] at e3
    obtain ⟨⟨f, hf⟩, hI, hL, hM, h0, hRB⟩ := at_slots r3
    obtain ⟨g, e5, g5, k5⟩ := p_commutator (σ := τ) (f := uS (uS f 0 (aR S p)) 1 (aR S q)) hM hG h0 (s := 0) (r := 1) (t := 2) (by omega) (by omega) (by omega) (by omega) (by omega) (B := 999) (by omega) (by omega) (by rw [uS_ne (by omega), uS_self]; exact reg_sb ok p) (by rw [uS_self]; exact reg_sb ok q)
    rw [uS_self, uS_ne (by omega), uS_self] at g5
    obtain ⟨υ, e4, r4, l4⟩ := r_gives (f := g) (hI g) ok hr10 (s := 2) (by omega)
    rw [g5] at e4 r4
    have hE := comm_eq hG (Cons.jac hG hcons) (a := aR S p) (b := aR S q)
    rw [e_gR ln_5 hp10 (by omega), rf_5 hp10, e_gR ln_5 hq10 (by omega), rf_5 hq10, e1, e_bs, e2, e_bq]
    refine ⟨_, σ2, υ, rfl, ?_, fin_kept ok hE i2 r4 ((l3.trans (hL _)).trans l4)⟩
    unfold f_X11_commute
    rw [e3, e_bq, if_pos rfl, ← hf, i32_0, p_lays (σ := τ) hRB ok (by omega) hp10, e_bs, i32_1, p_lays (σ := τ) hRB ok (by omega) hq10, e_bs, i32_2, e5, e_bs, e4, e_bq, isEl_congr hE]
  · obtain ⟨b3, τ, e3, r3, l3, hc3, _⟩ := r_can hr ok (x := x) (y := y) (z := z)
    have : b3 = b := bool_iff hc3 hB
    subst this
    refine ⟨false, σ, τ, ?_, ?_, fin_q ok h r3 l3⟩
    · by_cases h1 : isReg x = true ∧ isReg y = true ∧ b3 = true
      · rw [h1.1, h1.2.1, h1.2.2, Bool.and_self, Bool.and_self, if_pos rfl, e_bs, nb (fun q => hall ⟨h1.1, h1.2.1, q, h1.2.2⟩), if_neg (by decide)]
      · rw [and3 h1, if_neg (by decide)]
    · unfold f_X11_commute
      rw [e3, e_bq, and4 hall, if_neg (by decide)]
theorem ok_8 : Ok_8 II := by
  intro c σ x y z hc ⟨S, ok, h, hr⟩
  have hG : GOK (aG S) := ok.1.1
  obtain ⟨b, hb, hB⟩ := c_cons h
  unfold f_X10_conjugate
  rw [c_areUsable hb, e_bs, c_isReg]
  by_cases hall : isReg x = true ∧ isReg y = true ∧ isReg z = true ∧ b = true
  · obtain ⟨hx, hy, hz, hbt⟩ := hall
    rw [hx, hy, hz, hbt, Bool.and_self, Bool.and_self, if_pos rfl, e_bs, if_pos rfl]
    obtain ⟨r, hr10, rfl⟩ := isReg_idx hx
    obtain ⟨p, hp10, rfl⟩ := isReg_idx hy
    obtain ⟨q, hq10, rfl⟩ := isReg_idx hz
    have hcons := hB.mp hbt
    obtain ⟨σ1, e1, o1, r1⟩ := c_conjugated hG (c_poly h ok hcons) (out := 176) (a := 6 + p) (u := 6 + q) ln_176 (ln_reg hp10) (ln_reg hq10) (c_reg h hp10) (c_reg h hq10) (by omega) (by omega) ns176 (by omega) (by omega) (M := 999) (by omega) (by omega) (reg_sb ok p) (reg_sb ok q) (reg_z6 ok p)
    have s1 := o1.sc (fun x hx => by omega)
    obtain ⟨σ2, e2, i2, hi2⟩ := c_keepCounted (h.sc s1) ok r1 (Z6.muls hG Z6.invs) hr10
    obtain ⟨b3, τ, e3, r3, l3, hc3, _⟩ := r_can ((hr.hi s1.hi).hi hi2) ok (x := i32 r) (y := i32 p) (z := i32 q)
    have : b3 = true := hc3.mpr hcons
    subst this
    rw [hx, hy, hz, Bool.and_self, Bool.and_self, Bool.and_self] at e3
    obtain ⟨⟨f, hf⟩, hI, hL, hM, h0, hRB⟩ := at_slots r3
    obtain ⟨g, e5, g5, k5⟩ := p_conjugates (σ := τ) (f := uS (uS f 0 (aR S p)) 1 (aR S q)) hM hG h0 (s := 0) (r := 1) (t := 2) (by omega) (by omega) (by omega) (by omega) (by omega) (B := 999) (by omega) (by omega) (by rw [uS_ne (by omega), uS_self]; exact reg_sb ok p) (by rw [uS_self]; exact reg_sb ok q)
    rw [uS_self, uS_ne (by omega), uS_self] at g5
    obtain ⟨υ, e4, r4, l4⟩ := r_gives (f := g) (hI g) ok hr10 (s := 2) (by omega)
    rw [g5] at e4 r4
    have hE := conj_eq hG (Cons.jac hG hcons) (a := aR S p) (u := aR S q)
    rw [e_gR ln_5 hp10 (by omega), rf_5 hp10, e_gR ln_5 hq10 (by omega), rf_5 hq10, e1, e_bs, e2, e_bq]
    refine ⟨_, σ2, υ, rfl, ?_, fin_kept ok hE i2 r4 ((l3.trans (hL _)).trans l4)⟩
    unfold f_X11_conjugate
    rw [e3, e_bq, if_pos rfl, ← hf, i32_0, p_lays (σ := τ) hRB ok (by omega) hp10, e_bs, i32_1, p_lays (σ := τ) hRB ok (by omega) hq10, e_bs, i32_2, e5, e_bs, e4, e_bq, isEl_congr hE]
  · obtain ⟨b3, τ, e3, r3, l3, hc3, _⟩ := r_can hr ok (x := x) (y := y) (z := z)
    have : b3 = b := bool_iff hc3 hB
    subst this
    refine ⟨false, σ, τ, ?_, ?_, fin_q ok h r3 l3⟩
    · by_cases h1 : isReg x = true ∧ isReg y = true ∧ b3 = true
      · rw [h1.1, h1.2.1, h1.2.2, Bool.and_self, Bool.and_self, if_pos rfl, e_bs, nb (fun q => hall ⟨h1.1, h1.2.1, q, h1.2.2⟩), if_neg (by decide)]
      · rw [and3 h1, if_neg (by decide)]
    · unfold f_X11_conjugate
      rw [e3, e_bq, and4 hall, if_neg (by decide)]
end MLT
end
section
/-! root, set -/
section RTS
variable {σ : Mem} {G : GD}
theorem ok_9 : Ok_9 II := by
  intro c σ x y m hc ⟨S, ok, h, hr⟩
  have hG : GOK (aG S) := ok.1.1
  obtain ⟨b, hb, hB⟩ := c_cons h
  have em := fun τ : Mem => r_in (σ := τ) (x := m) (l := 1) (u := 99) ⟨by omega, by omega⟩ ⟨by omega, by omega⟩
  unfold f_X10_root
  rw [c_areUsable hb, e_bs]
  by_cases hall : isReg x = true ∧ isReg y = true ∧ b = true
  · obtain ⟨hx, hy, hbt⟩ := hall
    have hcons := hB.mp hbt
    rw [hx, hy, hbt, Bool.and_self, Bool.and_self, if_pos rfl]
    obtain ⟨r, hr10, rfl⟩ := isReg_idx hx
    obtain ⟨p, hp10, rfl⟩ := isReg_idx hy
    by_cases hm : 1 ≤ m.toInt ∧ m.toInt ≤ 99
    · rw [if_neg (fun q => by have := (lt32 (k := 1) (by omega)).mp q; omega), if_pos (show m ≤ 99 from (le32 (k := 99) (by omega)).mpr (by omega))]
      obtain ⟨b1, σ1, e1, o1, hb1, r1⟩ := c_extract hG (out := 176) (x1 := 6 + p) (m := m.toInt64) (z := m.toInt) (c_poly h ok hcons) ln_176 (ln_reg hp10) (c_reg h hp10) (reg_z6 ok p) (by omega) to64 hm
      have s1 := o1.sc (fun x hx => by omega)
      have h1 := h.sc s1
      rw [rt_all hG (reg_z6 ok p)] at hb1
      rw [e_gR ln_5 hp10 (by omega), rf_5 hp10, e1, e_bq]
      have hmem : ∀ σ2, HI σ σ2 → ∃ τ b2 g, f_X11_can σ2 (i32 r) (i32 p) (i32 p) = some (true, τ) ∧ LO σ2 τ ∧ MG τ (aG S) ∧ (∀ g, IRef S (PS τ g)) ∧ (∀ g, LO τ (PS τ g)) ∧ ((f_X11_laysRegister τ 0 (i32 p)).bind (fun (σ4 : Mem) => f_X11_extracts σ4 0 1 m) = some (b2, PS τ g)) ∧ (b2 = true ↔ ∀ k, k < gn (aG S) → rtOK (aG S) (aR S p) m.toInt k) ∧ (b2 = true → g 1 = rtU (aG S) (aR S p) m.toInt (gn (aG S))) := by
        intro σ2 hi2
        obtain ⟨b3, τ, e3, r3, l3, hc3, _⟩ := r_can (hr.hi hi2) ok (x := i32 r) (y := i32 p) (z := i32 p)
        have : b3 = true := hc3.mpr hcons
        subst this
        rw [hx, hy, Bool.and_self, Bool.and_self, Bool.and_self] at e3
        obtain ⟨⟨f, hf⟩, hI, hL, hM, h0, hRB⟩ := at_slots r3
        obtain ⟨b2, g, e5, g5, k5, _⟩ := p_extracts (σ := τ) (f := uS f 0 (aR S p)) hM hG h0 (s := 0) (t := 1) (m := m) (z := m.toInt) (by omega) (by omega) (by omega) rfl hm (by rw [uS_self]; exact reg_sb ok p)
        rw [uS_self] at g5 k5
        refine ⟨τ, b2, g, e3, l3, hM, hI, hL, ?_, g5, k5⟩
        have e6 : f_X11_laysRegister τ 0 (i32 p) = some (PS τ (uS f 0 (aR S p))) := by
          have := p_lays (σ := τ) (f := f) hRB ok (s := 0) (by omega) hp10
          rw [hf] at this
          exact this
        rw [e6, e_bs]
        exact e5
      cases b1 with
      | true =>
        have hk := hb1.mp rfl
        have r1' : H6 σ1 176 (rtU (aG S) (aR S p) m.toInt (gn (aG S))) := fun k hk => by rw [r1 rfl k hk, rtU_6 hG (reg_z6 ok p) k hk]
        have z1 : Z6 (aG S) (rtU (aG S) (aR S p) m.toInt (gn (aG S))) := fun k h1 h2 => rtU_beyond _ h1
        obtain ⟨σ2, e2, i2, hi2⟩ := c_keep h1 ok r1' z1 hr10 hk.2
        obtain ⟨τ, b2, g, e3, l3, hM, hI, hL, e4, hb2, hg⟩ := hmem σ2 (s1.hi.trans hi2)
        have hb2t : b2 = true := hb2.mpr hk.1
        subst hb2t
        have hg1 := hg rfl
        obtain ⟨υ, e5, r5, l5⟩ := r_gives (f := g) (hI g) ok hr10 (s := 1) (by omega)
        rw [hg1, hk.2] at e5
        rw [hg1, hk.2, if_pos rfl] at r5
        rw [if_pos rfl, e2, e_bq, if_pos rfl, e_bs]
        refine ⟨true, σ2, υ, rfl, ?_, nS S r _, nS_ok ok hk.2, i2.lo ((l3.trans (hL _)).trans l5), r5⟩
        unfold f_X11_root
        rw [e3, e_bq, if_pos rfl, show (1 : Int64) = oi 1 from rfl, show (99 : Int64) = oi 99 from rfl, em, e_bs, decide_eq_true hm, if_pos rfl]
        obtain ⟨σ4, e6, e7⟩ := Option.bind_eq_some_iff.mp e4
        have e8 : f_X11_isElement (PS τ g) (i32 1) = some true := by rw [p_isElement hM hG (by omega), hg1, hk.2]
        have e8' : f_X11_isElement (PS τ g) 1 = some true := e8
        have e5' : f_X11_gives (PS τ g) (i32 r) 1 = some (true, υ) := e5
        rw [e6, e_bs, e7, e_bq, if_pos rfl, e8', e_bs, if_pos rfl, e5', e_bq, if_pos rfl, e_bs]
        rfl
      | false =>
        rw [if_neg (by decide), e_bs]
        obtain ⟨τ, b2, g, e3, l3, hM, hI, hL, e4, hb2, hg⟩ := hmem σ1 s1.hi
        obtain ⟨σ4, e6, e7⟩ := Option.bind_eq_some_iff.mp e4
        refine ⟨false, σ1, PS τ g, rfl, ?_, fin_q ok h1 (hI g) (l3.trans (hL _))⟩
        unfold f_X11_root
        rw [e3, e_bq, if_pos rfl, show (1 : Int64) = oi 1 from rfl, show (99 : Int64) = oi 99 from rfl, em, e_bs, decide_eq_true hm, if_pos rfl, e6, e_bs, e7, e_bq]
        cases b2 with
        | false => rfl
        | true =>
          have hel : isEl (aG S) (g 1) = false := by
            rw [hg rfl]
            exact nb (fun q => absurd (hb1.mpr ⟨hb2.mp rfl, q⟩) (by decide))
          have e8 : f_X11_isElement (PS τ g) 1 = some false := by
            have := p_isElement (f := g) hM hG (s := 1) (by omega)
            rw [hel] at this
            exact this
          rw [if_pos rfl, e8, e_bs, if_neg (by decide), e_bs]
          rfl
    · obtain ⟨b3, τ, e3, r3, l3, hc3, _⟩ := r_can hr ok (x := i32 r) (y := i32 p) (z := i32 p)
      have : b3 = true := hc3.mpr hcons
      subst this
      rw [hx, hy, Bool.and_self, Bool.and_self, Bool.and_self] at e3
      refine ⟨false, σ, τ, ?_, ?_, fin_q ok h r3 l3⟩
      · by_cases h1 : m < 1
        · rw [if_pos h1]
        · have h1' : ¬ m.toInt < 1 := fun q => h1 ((lt32 (k := 1) (by omega)).mpr q)
          rw [if_neg h1, if_neg (fun q => by have := (le32 (k := 99) (by omega)).mp q; omega)]
      · unfold f_X11_root
        rw [e3, e_bq, if_pos rfl, show (1 : Int64) = oi 1 from rfl, show (99 : Int64) = oi 99 from rfl, em, e_bs, decide_eq_false hm, if_neg (by decide)]
  · obtain ⟨b3, τ, e3, r3, l3, hc3, _⟩ := r_can hr ok (x := x) (y := y) (z := y)
    have : b3 = b := bool_iff hc3 hB
    subst this
    refine ⟨false, σ, τ, ?_, ?_, fin_q ok h r3 l3⟩
    · rw [and3 hall, if_neg (by decide)]
    · unfold f_X11_root
      rw [e3, e_bq, and4 (fun q => hall ⟨q.1, q.2.1, q.2.2.2⟩), if_neg (by decide)]
theorem uV_el {R : Nat → Int} {k : Nat} {v : Int} (hR : ∀ i, -999 ≤ R i ∧ R i ≤ 999) (hv : -999 ≤ v ∧ v ≤ 999) : ∀ i, -999 ≤ uV R k v i ∧ uV R k v i ≤ 999 := fun i => by
  unfold uV
  split
  · exact hv
  · exact hR i
theorem isEl_small {A : Nat → Int} (h : ∀ i, -999 ≤ A i ∧ A i ≤ 999) : isEl G A = true := by
  unfold isEl
  rw [decide_eq_true_eq]
  intro k _
  have := h k
  have e1 : (-999 : Int64).toInt = -999 := by decide
  have e2 : (999 : Int64).toInt = 999 := by decide
  rw [Int64.le_iff_toInt_le, Int64.le_iff_toInt_le, oi_toInt (by omega) (by omega)]
  omega
theorem ok_3 : Ok_3 II := by
  intro c σ x y v hc ⟨S, ok, h, hr⟩
  have hG : GOK (aG S) := ok.1.1
  have hn : gn (aG S) ≤ 6 := hG.2.1
  obtain ⟨b, hb, hB⟩ := c_cons h
  have ev := fun τ : Mem => r_in (σ := τ) (x := v) (l := -999) (u := 999) ⟨by omega, by omega⟩ ⟨by omega, by omega⟩
  have l999 : v < -999 ↔ v.toInt < -999 := by
    rw [Int32.lt_iff_toInt_lt, show (-999 : Int32).toInt = -999 by decide]
  have z0 : isReg (i32 0) = true := by decide
  have z0' : isReg 0 = true := by decide
  obtain ⟨b3, τ0, e30, r30, l30, hc30, _⟩ := r_can hr ok (x := x) (y := 0) (z := 0)
  have hb3 : b3 = b := bool_iff hc30 hB
  subst hb3
  rw [z0', Bool.true_and, Bool.true_and] at e30
  unfold f_X10_set
  rw [c_isReg, e_bs]
  cases hx : isReg x with
  | false =>
    rw [if_neg (by decide)]
    refine ⟨false, σ, τ0, rfl, ?_, fin_q ok h r30 l30⟩
    unfold f_X11_set
    rw [e30, e_bq, hx, Bool.false_and, if_neg (by decide)]
  | true =>
    obtain ⟨r, hr10, rfl⟩ := isReg_idx hx
    rw [hx, Bool.true_and] at e30
    rw [if_pos rfl, c_isGen h.1.1.1 hn, e_bs]
    -- where the reference refuses
    have ref : (∀ μ : Mem, b3 = true → MG μ (aG S) → (f_X11_n μ).bind (fun (v3 : Int32) => (f_X11_isIn μ (Int32.toInt64 y) 1 (Int32.toInt64 v3)).bind (fun (b4 : Bool) => if b4 then (f_X11_isIn μ (Int32.toInt64 v) (-999) 999).bind (fun (b5 : Bool) => if b5 then (f_X11_laysRegister μ 0 (i32 r)).bind (fun (σ6 : Mem) => (f_X11_puts σ6 0 (y - 1) (Int32.toInt64 v)).bind (fun (σ7 : Mem) => bq (f_X11_gives σ7 (i32 r) 0) (fun (b8 : Bool) (σ9 : Mem) => some (b8, σ9)))) else some (false, μ)) else some (false, μ))) = some (false, μ)) → ∃ r' σ1 σ2, (some (false, σ) : Option (Bool × Mem)) = some (r', σ1) ∧ f_X11_set σ1 (i32 r) y v = some (r', σ2) ∧ II (c + 1) σ2 := by
      intro hq
      refine ⟨false, σ, τ0, rfl, ?_, fin_q ok h r30 l30⟩
      unfold f_X11_set
      rw [e30, e_bq]
      cases hbb : b3 with
      | false => rw [if_neg (by decide)]
      | true =>
        rw [if_pos rfl]
        exact hq τ0 hbb r30.1.mg
    cases hy : isGen (gn (aG S)) y with
    | false =>
      rw [if_neg (by decide)]
      refine ref (fun μ hbt hM => ?_)
      rw [e_n hM, e_bs, r_isGen hn, e_bs, hy, if_neg (by decide)]
    | true =>
      obtain ⟨k, hk, rfl, hk1⟩ := isGen_idx hy
      rw [if_pos rfl, e_gZ hb]
      cases hbb : b3 with
      | false =>
        rw [if_neg (by decide)]
        exact ref (fun μ hbt _ => by rw [hbb] at hbt; exact absurd hbt (by decide))
      | true =>
        rw [if_pos rfl]
        have hcons := hB.mp hbb
        by_cases hv : -999 ≤ v.toInt ∧ v.toInt ≤ 999
        · rw [if_neg (fun q => by have := l999.mp q; omega), if_pos (show v ≤ 999 from (le32 (k := 999) (by omega)).mpr (by omega))]
          have hA := uV_el (R := aR S r) (k := k) (ok.1.2.1 r) hv
          have hel : isEl (aG S) (uV (aR S r) k v.toInt) = true := isEl_small hA
          obtain ⟨σ3, e3, a3, f3⟩ := c_beginAct h.1 h.2.2.1 ok.2.2.1.1
          rw [e3, e_bs, e_gR ln_5 hr10 (by omega), rf_5 hr10, hk1, e_pL (ln_reg hr10) (by omega) (by omega)]
          obtain ⟨q2, q3, q4, q5, q6⟩ := h.rest
          have g : ∀ x, x ≠ 0 → x < 178 ∨ 305 < x → (wL σ3 (6 + r) k v.toInt64).1 x = σ.1 x := fun x h0 hx => f3.1 x h0 hx
          have g2 : ∀ x, (x < 178 ∨ 305 < x) → x ≠ 6 + r → (wL σ3 (6 + r) k v.toInt64).2 x = σ.2 x := fun x hx hn => by rw [← f3.2.1 x hx]; funext y; rw [wL_2, if_neg (fun z => hn z.1)]
          have g0 : ∀ c, c ≠ 4 → c ≠ 5 → (wL σ3 (6 + r) k v.toInt64).1 0 c = σ.1 0 c := fun c c1 c2 => f3.2.2 c c1 c2
          have hI : ICls (c + 1) (nS S r (uV (aR S r) k v.toInt)) (wL σ3 (6 + r) k v.toInt64) := by
            refine ICls.up (ICls.mk ⟨?_, fun q i hq hi => ?_⟩ ⟨q2.eqs (g 16 (by omega) (by omega)), a3.eqs rfl (fun x b1 b2 => rfl) (fun x b1 b2 => by funext y; rw [wL_2, if_neg (by omega)]), ⟨by rw [g0 2 (by omega) (by omega)]; exact q4.1, fun y hy => ⟨(q4.2 y hy).1.eqs (fun x a b => g x (by omega) (by omega)) (fun x a b => g2 x (by omega) (by omega)), (q4.2 y hy).2.eqs (g 32 (by omega) (by omega))⟩⟩, ⟨by rw [g0 7 (by omega) (by omega)]; exact q5.1, fun p x hp => by rw [g 34 (by omega) (by omega)]; exact q5.2 p x hp⟩, by rw [g 144 (by omega) (by omega)]; exact q6.1, by rw [g 144 (by omega) (by omega)]; exact q6.2⟩ (h.law.eqs (fun c _ => by rw [g 40 (by omega) (by omega)]) (fun x hx => g x (by omega) (by omega)) (fun x hx => g2 x (by omega) (by omega))))
            · have := h.1.1
              show CG _ 2 (aG S)
              unfold CG
              rw [g 2 (by omega) (by omega), g (2 + 1) (by omega) (by omega), g (2 + 2) (by omega) (by omega)]
              exact this
            · show (wL σ3 (6 + r) k v.toInt64).2 (6 + q) i = oi (upR (aG S) (aR S) r (uV (aR S r) k v.toInt) q i)
              unfold upR
              by_cases h1 : q = r
              · rw [if_pos h1, h1]
                by_cases h2 : i < gn (aG S)
                · have h3 : oi (oi (uV (aR S r) k v.toInt i)).toInt = oi (uV (aR S r) k v.toInt i) := Int64.ofInt_toInt _
                  rw [if_pos h2, h3, wL_2]
                  unfold uV
                  by_cases h4 : i = k
                  · rw [if_pos ⟨rfl, h4⟩, if_pos h4, to64]
                  · rw [if_neg (fun z => h4 z.2), if_neg h4, f3.2.1 _ (by omega)]
                    exact h.1.2 r i hr10 hi
                · rw [if_neg h2, wL_2, if_neg (by omega), f3.2.1 _ (by omega)]
                  have := h.1.2 r i hr10 hi
                  rw [show 1 + 5 + r = 6 + r by omega] at this
                  rw [this, ok.1.2.2 r i (Nat.le_of_not_lt h2)]
              · rw [if_neg h1, g2 _ (by omega) (by omega)]
                exact h.1.2 q i hq hi
          have hH : HI σ (wL σ3 (6 + r) k v.toInt64) := fun x hx => ⟨g x (by omega) (by omega), g2 x (by omega) (by omega)⟩
          obtain ⟨b5, τ, e5, r5, l5, hc5, _⟩ := r_can (hr.hi hH) ok (x := i32 r) (y := 0) (z := 0)
          have : b5 = true := hc5.mpr hcons
          subst this
          rw [hx, z0', Bool.and_self, Bool.and_self, Bool.and_self] at e5
          obtain ⟨⟨f, hf⟩, hI5, hL, hM, h0, hRB⟩ := at_slots r5
          obtain ⟨υ, e6, r6, l6⟩ := r_gives (f := uS (uS f 0 (aR S r)) 0 (uV (uS f 0 (aR S r) 0) k v.toInt)) (hI5 _) ok hr10 (s := 0) (by omega)
          rw [uS_self, uS_self, hel] at e6
          rw [uS_self, uS_self, hel, if_pos rfl] at r6
          refine ⟨true, _, υ, rfl, ?_, nS S r _, nS_ok ok hel, hI.lo ((l5.trans (hL _)).trans l6), r6⟩
          unfold f_X11_set
          rw [e5, e_bq, if_pos rfl, e_n hM, e_bs, r_isGen hn, e_bs, hy, if_pos rfl, show (-999 : Int64) = oi (-999) from rfl, show (999 : Int64) = oi 999 from rfl, ev, e_bs, decide_eq_true hv, if_pos rfl]
          have e7 : f_X11_laysRegister τ 0 (i32 r) = some (PS τ (uS f 0 (aR S r))) := by
            have := p_lays (σ := τ) (f := f) hRB ok (s := 0) (by omega) hr10
            rw [hf] at this
            exact this
          have e8 : f_X11_puts (PS τ (uS f 0 (aR S r))) 0 (i32 k) (oi v.toInt) = some (PS τ (uS (uS f 0 (aR S r)) 0 (uV (uS f 0 (aR S r) 0) k v.toInt))) := p_puts (σ := τ) (f := uS f 0 (aR S r)) (s := 0) (i := k) (x := v.toInt) (by omega) (by omega)
          rw [uS_self] at e8
          have e6' : f_X11_gives (PS τ (uS (uS f 0 (aR S r)) 0 (uV (aR S r) k v.toInt))) (i32 r) 0 = some (true, υ) := e6
          rw [e7, e_bs, hk1, to64, e8, e_bs, e6', e_bq]
        · have hcl : (if v < -999 then (some (false, σ)) else (if v ≤ 999 then ((f_X10_beginAct σ).bind (fun (σ4 : Mem) => gR 5 (i32 r) (fun (p5 : Nat) => pL σ4 p5 (i32 (k + 1) - 1) (Int32.toInt64 v) (fun (σ6 : Mem) => some (true, σ6))))) else (some (false, σ))) : Option (Bool × Mem)) = some (false, σ) := by
            by_cases h1 : v < -999
            · rw [if_pos h1]
            · have h1' : ¬ v.toInt < -999 := fun q => h1 (l999.mpr q)
              rw [if_neg h1, if_neg (fun q => by have := (le32 (k := 999) (by omega)).mp q; omega)]
          rw [hcl]
          refine ref (fun μ hbt hM => ?_)
          rw [e_n hM, e_bs, r_isGen hn, e_bs, hy, if_pos rfl, show (-999 : Int64) = oi (-999) from rfl, show (999 : Int64) = oi 999 from rfl, ev, e_bs, decide_eq_false hv, if_neg (by decide)]
end RTS
end
section
/-! powers, associates, both -/
section BTH
variable {σ : Mem} {G : GD}
/-- a product's place hangs on the right factor's weight one, and adds what lies at it -/
theorem mul_rw1 (hG : GOK G) {a x y : Nat → Int} {m : Nat} (hm : m < gn G) (h : ∀ i, gw G i = 1 → x i = y i) : mul G a x m - x m = mul G a y m - y m := by
  rw [mul_eq hG hm, mul_eq hG hm]
  have e1 : pT G m a x = pT G m a y := sm_congr (fun i _ => sm_congr (fun j _ => by
    by_cases hz : tI G j i m = 0
    · rw [hz]; simp
    · have h1 := tI_ne hG hz
      have w4 := (hG.2.2.1 m hm).2
      have w5 := hG.2.2.2.1 i j (by omega) (by omega)
      have w6 := (hG.2.2.1 i (by omega)).1
      rw [h i (by omega)]))
  have e2 : pU G m a x = pU G m a y := sm_congr (fun i _ => sm_congr (fun j _ => by
    rw [Int.mul_assoc, Int.mul_assoc]
    exact DD_congr hG (fun _ h1 _ _ _ => by rw [h i h1])))
  have e3 : pV G m a x = pV G m a y := sm_congr (fun i _ => sm_congr (fun j _ => by
    rw [Int.mul_assoc, Int.mul_assoc]
    exact DD_congr hG (fun _ h1 _ _ _ => by rw [h i h1])))
  have e4 : pW G m a x = pW G m a y := sm_congr (fun i _ => sm_congr (fun j _ => sm_congr (fun q _ => by
    split
    · rw [Int.mul_assoc, Int.mul_assoc, Int.mul_assoc (DD G m j i q), Int.mul_assoc (DD G m j i q)]
      exact DD_congr hG (fun _ h1 _ _ _ => by rw [h i h1, Int.mul_assoc])
    · rfl)))
  have e5 : pX G m a x = pX G m a y := sm_congr (fun i _ => sm_congr (fun p _ => by
    split
    · refine sm_congr (fun j _ => ?_)
      rw [Int.mul_assoc, Int.mul_assoc, Int.mul_assoc (DD G m j p i), Int.mul_assoc (DD G m j p i)]
      exact DD_congr hG (fun _ h1 _ h2 _ => by rw [h p h1, h i h2, Int.mul_assoc])
    · rfl))
  omega
/-- a commutator is what two products differ by -/
theorem comm_diff (hG : GOK G) (hJ : Jac G) {a b : Nat → Int} {m : Nat} (hm : m < gn G) : mul G (inv G (mul G b a)) (mul G a b) m = mul G a b m - mul G b a m := by
  have h1 : EqG G (mul G (mul G b a) (mul G (inv G (mul G b a)) (mul G a b))) (mul G a b) := (massoc hG hJ).symm.trans (((mul_inv hG).times EqG.refl).trans (O_mul hG))
  have h2 := mul_rw1 hG (a := mul G b a) (x := mul G (inv G (mul G b a)) (mul G a b)) (y := O) hm (fun i hi => by
    have hin := gn_of_one hG hi
    rw [m1 hG hi, inv_one hG (by omega) hin, m1 hG hi, m1 hG hi]
    show _ = (0 : Int)
    omega)
  have h3 := mul_O hG (a := mul G b a) m hm
  have h4 := h1 m hm
  have h5 : O m = 0 := rfl
  omega
theorem isO_congr {A B : Nat → Int} (h : EqG G A B) : isO G A = isO G B := by
  unfold isO
  rw [decide_eq_decide]
  exact ⟨fun z k hk => by rw [← h k hk]; exact z k hk, fun z k hk => by rw [h k hk]; exact z k hk⟩
theorem areS_congr {A B C D : Nat → Int} (h : EqG G A C) (k : EqG G B D) : areS G A B = areS G C D := by
  unfold areS
  rw [decide_eq_decide]
  exact ⟨fun z q hq => by rw [← h q hq, ← k q hq]; exact z q hq, fun z q hq => by rw [h q hq, k q hq]; exact z q hq⟩
theorem areS_eq {A B : Nat → Int} (h : EqG G A B) : areS G A B = true := by
  unfold areS
  rw [decide_eq_true_eq]
  exact fun k hk => by rw [h k hk]
theorem isO_comm (hG : GOK G) (hJ : Jac G) {a b : Nat → Int} : isO G (mul G (mul G (mul G (inv G a) (inv G b)) a) b) = areS G (mul G a b) (mul G b a) := by
  rw [← isO_congr (comm_eq hG hJ)]
  unfold isO areS
  rw [decide_eq_decide]
  have e : ∀ k, k < gn G → (oi (mul G (inv G (mul G b a)) (mul G a b) k) = 0 ↔ oi (mul G a b k) = oi (mul G b a k)) := fun k hk => by
    rw [comm_diff hG hJ hk, ← oi_sub]
    constructor
    · intro z
      have := congrArg (fun w => w + oi (mul G b a k)) z
      simpa using this
    · intro z
      rw [z, Int64.sub_self]
  exact ⟨fun z k hk => (e k hk).mp (z k hk), fun z k hk => (e k hk).mpr (z k hk)⟩
/-! the layer, the first difference -/
def Lay (G : GD) (A : Nat → Int) (r : Int32) : Prop := (∃ k, k < gn G ∧ (∀ p, p < k → oi (A p) = 0) ∧ oi (A k) ≠ 0 ∧ r = i32 (gw G k)) ∨ ((∀ k, k < gn G → oi (A k) = 0) ∧ r = i32 (topG G) + 1)
theorem Lay.uniq {A : Nat → Int} {r q : Int32} (h : Lay G A r) (k : Lay G A q) : r = q := by
  rcases h with ⟨i, h1, h2, h3, rfl⟩ | ⟨h1, rfl⟩
  · rcases k with ⟨j, k1, k2, k3, rfl⟩ | ⟨k1, rfl⟩
    · have : i = j := by
        rcases Nat.lt_trichotomy i j with z | z | z
        · exact absurd (k2 i z) h3
        · exact z
        · exact absurd (h2 j z) k3
      rw [this]
    · exact absurd (k1 i h1) h3
  · rcases k with ⟨j, k1, k2, k3, rfl⟩ | ⟨k1, rfl⟩
    · exact absurd (h1 j k1) k3
    · rfl
theorem Lay.congr {A B : Nat → Int} {r : Int32} (h : Lay G A r) (e : EqG G A B) : Lay G B r := by
  rcases h with ⟨i, h1, h2, h3, rfl⟩ | ⟨h1, rfl⟩
  · exact Or.inl ⟨i, h1, fun p hp => by rw [← e p (by omega)]; exact h2 p hp, by rw [← e i h1]; exact h3, rfl⟩
  · exact Or.inr ⟨fun k hk => by rw [← e k hk]; exact h1 k hk, rfl⟩
theorem c_layerOf (hG : GOK G) (h : CG σ 2 G) {a : Nat} {A : Nat → Int} (ha : ln a = 6) (hA : H6 σ a A) : ∃ r, f_X10_layerOf σ a = some r ∧ Lay G A r := by
  have hn := hG.2.1
  have hn0 : σ.1 2 0 = i32 (gn G) := h.1
  unfold f_X10_layerOf
  have hl := loop_inv (body := fun (z4 : Int32) => l_X10_layerOf_2 σ a z4) (fun n z => ∃ i, i ≤ gn G ∧ n = gn G - i ∧ z = i32 i ∧ ∀ p, p < i → oi (A p) = 0) (fun r => (∃ i, i < gn G ∧ (∀ p, p < i → oi (A p) = 0) ∧ oi (A i) ≠ 0 ∧ r = Sum.inl (i32 i)) ∨ ((∀ k, k < gn G → oi (A k) = 0) ∧ r = Sum.inr (Sum.inl ()))) ?_ (gn G) 0 ⟨0, by omega, rfl, rfl, fun p hp => absurd hp (Nat.not_lt_zero _)⟩
  · obtain ⟨r, e, ⟨i, h1, h2, h3, rfl⟩ | ⟨h1, rfl⟩⟩ := hl
    · refine ⟨i32 (gw G i), ?_, Or.inl ⟨i, h1, h2, h3, rfl⟩⟩
      rw [e, e_bs]
      show (j_X10_layerOf_24 σ (i32 i)).bind _ = _
      unfold j_X10_layerOf_24
      have : σ.1 3 i = i32 (gw G i) := h.2.1 i (by omega)
      rw [e_gI ln_3 (by omega) (by omega), this, e_bs]
      rfl
    · refine ⟨i32 (topG G) + 1, ?_, Or.inr ⟨h1, rfl⟩⟩
      rw [e, e_bs]
      show (some (Sum.inl ()) : Option (Unit ⊕ Int32)).bind _ = _
      rw [e_bs]
      show j_X10_layerOf_43 σ = _
      unfold j_X10_layerOf_43
      rw [c_top hG h RR2_2.1 ln_3, e_bs]
  · rintro n z ⟨i, hi, rfl, rfl, hv⟩
    by_cases hin : i = gn G
    · right
      subst hin
      refine ⟨_, ?_, Or.inr ⟨hv, rfl⟩⟩
      show l_X10_layerOf_2 σ a (i32 (gn G)) = _
      unfold l_X10_layerOf_2
      rw [e_gF, hn0, if_pos (i_le (Nat.le_refl _) (by omega))]
    · by_cases hz : oi (A i) = 0
      · left
        refine ⟨i32 (i + 1), gn G - (i + 1), by omega, ?_, i + 1, by omega, rfl, rfl, fun p hp => ?_⟩
        · show l_X10_layerOf_2 σ a (i32 i) = _
          unfold l_X10_layerOf_2
          rw [e_gF, hn0, if_neg (i_nle (by omega) (by omega)), e_gL ha (by omega) (by omega), hA i (by omega), if_pos hz, i32_1, i32_add]
        · by_cases h5 : p = i
          · rw [h5]; exact hz
          · exact hv p (by omega)
      · right
        refine ⟨_, ?_, Or.inl ⟨i, by omega, hv, hz, rfl⟩⟩
        show l_X10_layerOf_2 σ a (i32 i) = _
        unfold l_X10_layerOf_2
        rw [e_gF, hn0, if_neg (i_nle (by omega) (by omega)), e_gL ha (by omega) (by omega), hA i (by omega), if_neg hz]
theorem r_level (hG : GOK G) (h : MG σ G) : f_X11_level σ = some (i32 (topG G)) := by
  have h1 := hG.1
  have hn := hG.2.1
  unfold f_X11_level
  rw [e_n h, e_bs, i32_1, i32_sub h1, e_weight h (by omega), e_bs]
  rfl
theorem r_layer {f : SF} (hG : GOK G) (h : MG σ G) {s : Nat} (hs : s < 100) : ∃ r, f_X11_layer (PS σ f) (i32 s) = some r ∧ Lay G (f s) r := by
  have hn := hG.2.1
  unfold f_X11_layer
  have hl := loop_inv (body := fun (z4 : Int32) => l_X11_layer_2 (PS σ f) (i32 s) z4) (fun n z => ∃ i, i ≤ gn G ∧ n = gn G - i ∧ z = i32 i ∧ ∀ p, p < i → oi (f s p) = 0) (fun r => (∃ i, i < gn G ∧ (∀ p, p < i → oi (f s p) = 0) ∧ oi (f s i) ≠ 0 ∧ r = Sum.inl (i32 i)) ∨ ((∀ k, k < gn G → oi (f s k) = 0) ∧ r = Sum.inr (Sum.inl ()))) ?_ (gn G) 0 ⟨0, by omega, rfl, rfl, fun p hp => absurd hp (Nat.not_lt_zero _)⟩
  · obtain ⟨r, e, ⟨i, h1, h2, h3, rfl⟩ | ⟨h1, rfl⟩⟩ := hl
    · refine ⟨i32 (gw G i), ?_, Or.inl ⟨i, h1, h2, h3, rfl⟩⟩
      rw [e, e_bs]
      show (j_X11_layer_21 (PS σ f) (i32 i)).bind _ = _
      unfold j_X11_layer_21
      rw [e_weight (PS_MG h) (by omega), e_bs, e_bs]
      rfl
    · refine ⟨i32 (topG G) + 1, ?_, Or.inr ⟨h1, rfl⟩⟩
      rw [e, e_bs]
      show (some (Sum.inl ()) : Option (Unit ⊕ Int32)).bind _ = _
      rw [e_bs]
      show j_X11_layer_33 (PS σ f) = _
      unfold j_X11_layer_33
      rw [r_level hG (PS_MG h), e_bs]
  · rintro n z ⟨i, hi, rfl, rfl, hv⟩
    by_cases hin : i = gn G
    · right
      subst hin
      refine ⟨_, ?_, Or.inr ⟨hv, rfl⟩⟩
      show l_X11_layer_2 (PS σ f) (i32 s) (i32 (gn G)) = _
      unfold l_X11_layer_2
      rw [e_n (PS_MG h), e_bs, if_pos (i_le (Nat.le_refl _) (by omega))]
    · by_cases hz : oi (f s i) = 0
      · left
        refine ⟨i32 (i + 1), gn G - (i + 1), by omega, ?_, i + 1, by omega, rfl, rfl, fun p hp => ?_⟩
        · show l_X11_layer_2 (PS σ f) (i32 s) (i32 i) = _
          unfold l_X11_layer_2
          rw [e_n (PS_MG h), e_bs, if_neg (i_nle (by omega) (by omega)), p_of hs (by omega), e_bs, if_pos hz, i32_1, i32_add]
        · by_cases h5 : p = i
          · rw [h5]; exact hz
          · exact hv p (by omega)
      · right
        refine ⟨_, ?_, Or.inl ⟨i, by omega, hv, hz, rfl⟩⟩
        show l_X11_layer_2 (PS σ f) (i32 s) (i32 i) = _
        unfold l_X11_layer_2
        rw [e_n (PS_MG h), e_bs, if_neg (i_nle (by omega) (by omega)), p_of hs (by omega), e_bs, if_neg hz]
def FDi (G : GD) (A B : Nat → Int) (r : Int32) : Prop := (∃ k, k < gn G ∧ (∀ p, p < k → oi (A p) = oi (B p)) ∧ oi (A k) ≠ oi (B k) ∧ r = i32 (k + 1)) ∨ ((∀ k, k < gn G → oi (A k) = oi (B k)) ∧ r = 0)
theorem FDi.uniq {A B : Nat → Int} {r q : Int32} (h : FDi G A B r) (k : FDi G A B q) : r = q := by
  rcases h with ⟨i, h1, h2, h3, rfl⟩ | ⟨h1, rfl⟩
  · rcases k with ⟨j, k1, k2, k3, rfl⟩ | ⟨k1, rfl⟩
    · have : i = j := by
        rcases Nat.lt_trichotomy i j with z | z | z
        · exact absurd (k2 i z) h3
        · exact z
        · exact absurd (h2 j z) k3
      rw [this]
    · exact absurd (k1 i h1) h3
  · rcases k with ⟨j, k1, k2, k3, rfl⟩ | ⟨k1, rfl⟩
    · exact absurd (h1 j k1) k3
    · rfl
theorem c_firstDiff (hn : gn G ≤ 6) (hn0 : σ.1 2 0 = i32 (gn G)) {a b : Nat} {A B : Nat → Int} (ha : ln a = 6) (hb : ln b = 6) (hA : H6 σ a A) (hB : H6 σ b B) : ∃ r, f_X10_firstDifference σ a b = some r ∧ FDi G A B r := by
  unfold f_X10_firstDifference
  have hl := loop_inv (body := fun (z2 : Int32) => l_X10_firstDifference_2 σ a b z2) (fun n z => ∃ i, i ≤ gn G ∧ n = gn G - i ∧ z = i32 i ∧ ∀ p, p < i → oi (A p) = oi (B p)) (fun r => (∃ i, i < gn G ∧ (∀ p, p < i → oi (A p) = oi (B p)) ∧ oi (A i) ≠ oi (B i) ∧ r = Sum.inl (i32 i)) ∨ ((∀ k, k < gn G → oi (A k) = oi (B k)) ∧ r = Sum.inr 0)) ?_ (gn G) 0 ⟨0, by omega, rfl, rfl, fun p hp => absurd hp (Nat.not_lt_zero _)⟩
  · obtain ⟨r, e, ⟨i, h1, h2, h3, rfl⟩ | ⟨h1, rfl⟩⟩ := hl
    · refine ⟨i32 (i + 1), ?_, Or.inl ⟨i, h1, h2, h3, rfl⟩⟩
      rw [e, e_bs]
      show j_X10_firstDifference_26 (i32 i) = _
      unfold j_X10_firstDifference_26
      rw [i32_1, i32_add]
    · refine ⟨0, ?_, Or.inr ⟨h1, rfl⟩⟩
      rw [e, e_bs]
      rfl
  · rintro n z ⟨i, hi, rfl, rfl, hv⟩
    by_cases hin : i = gn G
    · right
      subst hin
      refine ⟨_, ?_, Or.inr ⟨hv, rfl⟩⟩
      show l_X10_firstDifference_2 σ a b (i32 (gn G)) = _
      unfold l_X10_firstDifference_2
      rw [e_gF, hn0, if_pos (i_le (Nat.le_refl _) (by omega))]
    · by_cases hz : oi (A i) = oi (B i)
      · left
        refine ⟨i32 (i + 1), gn G - (i + 1), by omega, ?_, i + 1, by omega, rfl, rfl, fun p hp => ?_⟩
        · show l_X10_firstDifference_2 σ a b (i32 i) = _
          unfold l_X10_firstDifference_2
          rw [e_gF, hn0, if_neg (i_nle (by omega) (by omega)), e_gL ha (by omega) (by omega), hA i (by omega), e_gL hb (by omega) (by omega), hB i (by omega), if_pos hz, i32_1, i32_add]
        · by_cases h5 : p = i
          · rw [h5]; exact hz
          · exact hv p (by omega)
      · right
        refine ⟨_, ?_, Or.inl ⟨i, by omega, hv, hz, rfl⟩⟩
        show l_X10_firstDifference_2 σ a b (i32 i) = _
        unfold l_X10_firstDifference_2
        rw [e_gF, hn0, if_neg (i_nle (by omega) (by omega)), e_gL ha (by omega) (by omega), hA i (by omega), e_gL hb (by omega) (by omega), hB i (by omega), if_neg hz]
theorem r_firstApart {f : SF} (hG : GOK G) (h : MG σ G) : ∃ r, f_X11_firstApart (PS σ f) = some r ∧ FDi G (f 0) (f 1) r := by
  have hn := hG.2.1
  unfold f_X11_firstApart
  have p0 : ∀ i, i < 6 → f_X11_of (PS σ f) 0 (i32 i) = some (oi (f 0 i)) := fun i hi => p_of (s := 0) (by omega) hi
  have p1 : ∀ i, i < 6 → f_X11_of (PS σ f) 1 (i32 i) = some (oi (f 1 i)) := fun i hi => p_of (s := 1) (by omega) hi
  have hl := loop_inv (body := fun (z2 : Int32) => l_X11_firstApart_2 (PS σ f) z2) (fun n z => ∃ i, i ≤ gn G ∧ n = gn G - i ∧ z = i32 i ∧ ∀ p, p < i → oi (f 0 p) = oi (f 1 p)) (fun r => (∃ i, i < gn G ∧ (∀ p, p < i → oi (f 0 p) = oi (f 1 p)) ∧ oi (f 0 i) ≠ oi (f 1 i) ∧ r = Sum.inl (i32 i)) ∨ ((∀ k, k < gn G → oi (f 0 k) = oi (f 1 k)) ∧ r = Sum.inr 0)) ?_ (gn G) 0 ⟨0, by omega, rfl, rfl, fun p hp => absurd hp (Nat.not_lt_zero _)⟩
  · obtain ⟨r, e, ⟨i, h1, h2, h3, rfl⟩ | ⟨h1, rfl⟩⟩ := hl
    · refine ⟨i32 (i + 1), ?_, Or.inl ⟨i, h1, h2, h3, rfl⟩⟩
      rw [e, e_bs]
      show j_X11_firstApart_26 (i32 i) = _
      unfold j_X11_firstApart_26
      rw [i32_1, i32_add]
    · refine ⟨0, ?_, Or.inr ⟨h1, rfl⟩⟩
      rw [e, e_bs]
      rfl
  · rintro n z ⟨i, hi, rfl, rfl, hv⟩
    by_cases hin : i = gn G
    · right
      subst hin
      refine ⟨_, ?_, Or.inr ⟨hv, rfl⟩⟩
      show l_X11_firstApart_2 (PS σ f) (i32 (gn G)) = _
      unfold l_X11_firstApart_2
      rw [e_n (PS_MG h), e_bs, if_pos (i_le (Nat.le_refl _) (by omega))]
    · by_cases hz : oi (f 0 i) = oi (f 1 i)
      · left
        refine ⟨i32 (i + 1), gn G - (i + 1), by omega, ?_, i + 1, by omega, rfl, rfl, fun p hp => ?_⟩
        · show l_X11_firstApart_2 (PS σ f) (i32 i) = _
          unfold l_X11_firstApart_2
          rw [e_n (PS_MG h), e_bs, if_neg (i_nle (by omega) (by omega)), p0 i (by omega), e_bs, p1 i (by omega), e_bs, if_pos hz, i32_1, i32_add]
        · by_cases h5 : p = i
          · rw [h5]; exact hz
          · exact hv p (by omega)
      · right
        refine ⟨_, ?_, Or.inl ⟨i, by omega, hv, hz, rfl⟩⟩
        show l_X11_firstApart_2 (PS σ f) (i32 i) = _
        unfold l_X11_firstApart_2
        rw [e_n (PS_MG h), e_bs, if_neg (i_nle (by omega) (by omega)), p0 i (by omega), e_bs, p1 i (by omega), e_bs, if_neg hz]
end BTH
end
section
/-! powers, associates, both: the calls -/
section PWS
variable {σ : Mem} {G : GD}
/-- what a power's number is, as sums with signs -/
theorem pow_sum {k : Nat} {A : Nat → Int} : ∀ i, i ≤ 3 → sm (fun m => sg i m * Q G A m k) (i + 1) = if i = 0 then 0 else if i = 1 then A k else if i = 2 then al G A k else be G A k := by
  have t0 : two 0 = 0 := rfl
  have t1 : two 1 = 0 := rfl
  have t2 : two 2 = 1 := rfl
  have t3 : two 3 = 3 := rfl
  have h0 : three 0 = 0 := rfl
  have h1 : three 1 = 0 := rfl
  have h2 : three 2 = 0 := rfl
  have h3 : three 3 = 1 := rfl
  have q0 : Q G A ((0 : Nat) : Int) k = 0 := Q_0
  have q1 : Q G A ((1 : Nat) : Int) k = A k := Q_1
  have q2 : Q G A ((2 : Nat) : Int) k = A k * 2 + al G A k := by
    show A k * 2 + al G A k * two 2 + be G A k * three 2 = _
    rw [t2, h2]; omega
  have q3 : Q G A ((3 : Nat) : Int) k = A k * 3 + al G A k * 3 + be G A k := by
    show A k * 3 + al G A k * two 3 + be G A k * three 3 = _
    rw [t3, h3]; omega
  intro i hi
  rcases (show i = 0 ∨ i = 1 ∨ i = 2 ∨ i = 3 by omega) with z | z | z | z
  · subst z
    rw [if_pos rfl]
    show 0 + sg 0 0 * Q G A ((0 : Nat) : Int) k = 0
    rw [q0]; simp
  · subst z
    rw [if_neg (by omega), if_pos rfl]
    show 0 + sg 1 0 * Q G A ((0 : Nat) : Int) k + sg 1 1 * Q G A ((1 : Nat) : Int) k = A k
    rw [q0, q1, show sg 1 1 = 1 from by decide]
    omega
  · subst z
    rw [if_neg (by omega), if_neg (by omega), if_pos rfl]
    show 0 + sg 2 0 * Q G A ((0 : Nat) : Int) k + sg 2 1 * Q G A ((1 : Nat) : Int) k + sg 2 2 * Q G A ((2 : Nat) : Int) k = al G A k
    rw [q0, q1, q2, show sg 2 1 = -2 from by decide, show sg 2 2 = 1 from by decide]
    omega
  · subst z
    rw [if_neg (by omega), if_neg (by omega), if_neg (by omega)]
    show 0 + sg 3 0 * Q G A ((0 : Nat) : Int) k + sg 3 1 * Q G A ((1 : Nat) : Int) k + sg 3 2 * Q G A ((2 : Nat) : Int) k + sg 3 3 * Q G A ((3 : Nat) : Int) k = be G A k
    rw [q0, q1, q2, q3, show sg 3 1 = 3 from by decide, show sg 3 2 = -3 from by decide, show sg 3 3 = 1 from by decide]
    omega
theorem c_powNum (hG : GOK G) {k i : Nat} (hk : k < gn G) (hi : i ≤ 3) {A : Nat → Int} (h1 : H6 σ 75 A) (h2 : H6 σ 76 (mul G A A)) (h3 : H6 σ 77 (mul G (mul G A A) A)) : f_X0_powerNumber σ (i32 k) (i32 i) = some (oi (if i = 0 then 0 else if i = 1 then A k else if i = 2 then al G A k else be G A k)) := by
  have hn := hG.2.1
  have hq := Q_numbers hG (a := A) hk
  have n0 : ¬ i32 k < 0 := by rw [i32_0]; exact i_nlt (Nat.zero_le _) (by omega)
  have n6 : i32 k < 6 := by rw [i32_6]; exact i_lt (by omega) (by omega)
  unfold f_X0_powerNumber
  rw [if_neg n0, if_pos n6]
  rcases (show i = 0 ∨ i = 1 ∨ i = 2 ∨ i = 3 by omega) with z | z | z | z
  · subst z
    rw [if_neg (by decide), if_neg (by decide), if_neg (by decide), if_pos rfl]; rfl
  · subst z
    rw [if_pos (by decide), e_gL ln_75 (by omega) (by omega), h1 k (by omega), if_neg (by omega), if_pos rfl]
  · subst z
    rw [if_neg (by decide), if_pos (by decide), e_gL ln_76 (by omega) (by omega), e_gL ln_75 (by omega) (by omega), h1 k (by omega), h2 k (by omega), if_neg (by omega), if_neg (by omega), if_pos rfl, ← hq.1, ← oi_sub, ← oi_mul]
    rfl
  · subst z
    rw [if_neg (by decide), if_neg (by decide), if_pos (by decide), e_gL ln_77 (by omega) (by omega), e_gL ln_76 (by omega) (by omega), e_gL ln_75 (by omega) (by omega), h1 k (by omega), h2 k (by omega), h3 k (by omega), if_neg (by omega), if_neg (by omega), if_neg (by omega), ← hq.2, ← oi_add, ← oi_sub, ← oi_mul, ← oi_mul]
    rfl
theorem ok_27 : Ok_27 II := by
  intro c σ x y w hc ⟨S, ok, h, hr⟩
  have hG : GOK (aG S) := ok.1.1
  have hn : gn (aG S) ≤ 6 := hG.2.1
  obtain ⟨b, hb, hB⟩ := c_cons h
  have ew := fun τ : Mem => r_in (σ := τ) (x := w) (l := 0) (u := 3) ⟨by omega, by omega⟩ ⟨by omega, by omega⟩
  have f0 : LO σ (wI σ 306 0 0) := LO.row (by omega)
  unfold f_X10_powers
  rw [c_isReg, e_bs]
  cases hx : isReg x with
  | false =>
    rw [if_neg (by decide)]
    refine ⟨_, σ, _, rfl, ?_, fin_q ok h hr.told f0⟩
    unfold f_X11_powers
    rw [e_pF, r_isReg, e_bs, hx, if_neg (by decide)]
  | true =>
    obtain ⟨r, hr10, rfl⟩ := isReg_idx hx
    rw [if_pos rfl, c_isGen h.1.1.1 hn, e_bs]
    by_cases hall : isGen (gn (aG S)) y = true ∧ (0 ≤ w.toInt ∧ w.toInt ≤ 3) ∧ b = true
    · obtain ⟨hy, hw, hbt⟩ := hall
      have hcons := hB.mp hbt
      rw [hy, if_pos rfl, if_neg (fun q => by have := (lt32 (k := 0) (by omega)).mp q; omega), if_neg (fun q => by have := (gt32 (k := 3) (by omega)).mp q; omega), e_gZ hb, hbt, if_pos rfl]
      obtain ⟨k, hk, rfl, hk1⟩ := isGen_idx hy
      have hwi := i32_of hw.1
      have hi3 : w.toInt.toNat ≤ 3 := by omega
      obtain ⟨σ1, e1, o1, r1, r2, r3⟩ := c_findPowers hG (c_poly h ok hcons) (a := 6 + r) (ln_reg hr10) (c_reg h hr10) (M := 999) (by omega) (by omega) (reg_sb ok r) (reg_z6 ok r)
      have s1 := o1.sc (fun x hx => by omega)
      have e2 := c_powNum hG hk hi3 r1 r2 r3
      rw [← hwi] at e2
      obtain ⟨b3, τ, e3, q3, l3, _, _, hc3⟩ := r_cons (hr.hi s1.hi).told ok
      have : b3 = true := hc3.mpr hcons
      subst this
      obtain ⟨⟨f, hf⟩, hI, hL, hM, h0, hRB⟩ := at_slots q3
      have e4 : f_X11_laysRegister τ 0 (i32 r) = some (PS τ (uS f 0 (aR S r))) := by
        have := p_lays (σ := τ) (f := f) hRB ok (s := 0) (by omega) hr10
        rw [hf] at this
        exact this
      have f1 : LO σ1 (wI σ1 306 0 0) := LO.row (by omega)
      rw [e_gR ln_5 hr10 (by omega), rf_5 hr10, e1, e_bs, hk1, e2, e_bs]
      -- the reference's loop
      have hl := loop_inv (body := fun (z11 : (Mem × Int64 × Int32)) => l_X11_powers_64 (i32 (k + 1)) (i32 w.toInt.toNat) z11.1 z11.2.1 z11.2.2) (fun n z => ∃ m g, m ≤ w.toInt.toNat + 1 ∧ n = w.toInt.toNat + 1 - m ∧ z = (PS τ g, oi (sm (fun m => sg w.toInt.toNat m * Q (aG S) (aR S r) m k) m), i32 m) ∧ g 0 = aR S r) (fun q => ∃ g, q = (oi (sm (fun m => sg w.toInt.toNat m * Q (aG S) (aR S r) m k) (w.toInt.toNat + 1)), PS τ g)) ?_ (w.toInt.toNat + 1) (PS τ (uS f 0 (aR S r)), 0, 0) ⟨0, uS f 0 (aR S r), by omega, rfl, rfl, uS_self⟩
      · obtain ⟨q, e5, g, rfl⟩ := hl
        rw [pow_sum w.toInt.toNat hi3] at e5
        refine ⟨_, σ1, PS τ g, rfl, ?_, fin_q ok (h.sc s1) (hI g) (f1.trans (l3.trans (hL _)))⟩
        unfold f_X11_powers
        rw [e_pF, r_isReg, e_bs, hx, if_pos rfl, e3, e_bq, if_pos rfl, e_n hM, e_bs, r_isGen hn, e_bs, hy, if_pos rfl, show (0 : Int64) = oi 0 from rfl, show (3 : Int64) = oi 3 from rfl, ew, e_bs, decide_eq_true hw, if_pos rfl, e4, e_bs]
        rw [← hwi] at e5
        exact e5
      · rintro n z ⟨m, g, hm, rfl, rfl, hg⟩
        by_cases hmi : m = w.toInt.toNat + 1
        · right
          subst hmi
          refine ⟨_, ?_, g, rfl⟩
          show l_X11_powers_64 _ _ (PS τ g) _ (i32 (w.toInt.toNat + 1)) = _
          unfold l_X11_powers_64
          rw [if_pos (i_lt (by omega) (by omega))]
        · left
          obtain ⟨g2, e5, g5, k5⟩ := p_raises (σ := τ) (f := g) hM hG h0 (s := 0) (t := 1) (m := i32 m) (z := (m : Int)) (by omega) (by omega) (by omega) (i32_toInt (by omega)) (by omega) (B := 999) (by omega) (by omega) (by rw [hg]; exact reg_sb ok r)
          rw [hg, if_neg (show ¬ (m : Int) < 0 by omega), Int.natAbs_natCast] at g5
          refine ⟨(PS τ g2, oi (sm (fun m => sg w.toInt.toNat m * Q (aG S) (aR S r) m k) (m + 1)), i32 (m + 1)), w.toInt.toNat + 1 - (m + 1), by omega, ?_, m + 1, g2, by omega, rfl, rfl, by rw [k5 0 (by omega), hg]⟩
          show l_X11_powers_64 (i32 (k + 1)) (i32 w.toInt.toNat) (PS τ g) _ (i32 m) = _
          unfold l_X11_powers_64
          have e5' : f_X11_raises (PS τ g) 0 1 (i32 m) = some (PS τ g2) := e5
          rw [if_neg (i_nlt (by omega) (by omega)), e5', e_bs, e_nzI (by decide), r_sign hi3 (by omega) (by omega), e_bs]
          unfold j_X11_powers_96
          have e6 : f_X11_of (PS τ g2) 1 (i32 k) = some (oi (g2 1 k)) := p_of (s := 1) (by omega) (by omega)
          rw [r_choose hi3 (by omega), e_bs, hk1, e6, e_bs, e_bd, i32_1, i32_add, g5, pw_Q hG m k hk]
          congr 4
          show oi (sm _ m) + _ = oi (sm _ m + sg w.toInt.toNat m * Q (aG S) (aR S r) m k)
          rw [← oi_add]
          congr 1
          unfold sg
          rw [← oi_mul, ← oi_mul, Int64.mul_comm (oi _) (oi _)]
    · -- refused
      obtain ⟨b3, τ, e3, q3, l3, _, _, hc3⟩ := r_cons hr.told ok
      have hbb : b3 = b := bool_iff hc3 hB
      subst hbb
      refine ⟨-100000000000000, σ, τ, ?_, ?_, fin_q ok h q3 (f0.trans l3)⟩
      · cases hy : isGen (gn (aG S)) y with
        | false => rw [if_neg (by decide)]
        | true =>
          rw [if_pos rfl]
          by_cases h1 : w < 0
          · rw [if_pos h1]
          · have h1' : ¬ w.toInt < 0 := fun q => h1 ((lt32 (k := 0) (by omega)).mpr q)
            rw [if_neg h1]
            by_cases h2 : 3 < w
            · rw [if_pos h2]
            · have h2' : ¬ (3 : Int) < w.toInt := fun q => h2 ((gt32 (k := 3) (by omega)).mpr q)
              rw [if_neg h2, e_gZ hb, nb (fun q => hall ⟨hy, by omega, q⟩), if_neg (by decide)]
      · unfold f_X11_powers
        rw [e_pF, r_isReg, e_bs, hx, if_pos rfl, e3, e_bq]
        cases hbt : b3 with
        | false => rw [if_neg (by decide)]
        | true =>
          rw [if_pos rfl, e_n q3.1.mg, e_bs, r_isGen hn, e_bs]
          cases hy : isGen (gn (aG S)) y with
          | false => rw [if_neg (by decide)]
          | true =>
            rw [if_pos rfl, show (0 : Int64) = oi 0 from rfl, show (3 : Int64) = oi 3 from rfl, ew, e_bs, decide_eq_false (fun q => hall ⟨hy, q, hbt⟩), if_neg (by decide)]
theorem ok_28 : Ok_28 II := by
  intro c σ x y z hc ⟨S, ok, h, hr⟩
  have hG : GOK (aG S) := ok.1.1
  obtain ⟨b, hb, hB⟩ := c_cons h
  have f0 : LO σ (wI σ 306 0 0) := LO.row (by omega)
  unfold f_X10_associates
  rw [c_areUsable hb, e_bs, c_isReg]
  by_cases hall : isReg x = true ∧ isReg y = true ∧ isReg z = true ∧ b = true
  · obtain ⟨hx, hy, hz, hbt⟩ := hall
    rw [hx, hy, hz, hbt, Bool.and_self, Bool.and_self, if_pos rfl, e_bs, if_pos rfl]
    obtain ⟨p, hp, rfl⟩ := isReg_idx hx
    obtain ⟨q, hq, rfl⟩ := isReg_idx hy
    obtain ⟨r, hr10, rfl⟩ := isReg_idx hz
    have hcons := hB.mp hbt
    have hJ := Cons.jac hG hcons
    have P0 := c_poly h ok hcons
    have n177 : notSum 177 := fun k hk => by omega
    have n73 : notSum 73 := fun k hk => by omega
    have sp := reg_sb ok p
    have sq := reg_sb ok q
    have sr := reg_sb ok r
    obtain ⟨σ1, e1, o1, r1⟩ := c_product hG P0 (out := 176) (a := 6 + p) (b := 6 + q) ln_176 (ln_reg hp) (ln_reg hq) (c_reg h hp) (c_reg h hq) (by omega) ns176 (by omega) (by omega) (sp.w hG (by omega)) (sq.w hG (by omega)) (reg_z6 ok p)
    have s1 := o1.sc (fun x hx => by omega)
    have h1 := h.sc s1
    obtain ⟨σ2, e2, o2, r2⟩ := c_product hG (c_poly h1 ok hcons) (out := 176) (a := 176) (b := 6 + r) ln_176 ln_176 (ln_reg hr10) r1 (c_reg h1 hr10) (by omega) ns176 (by omega) (by omega) ((sp.mul hG sq).w hG (by omega)) (sr.w hG (by omega)) ((reg_z6 ok p).muls hG)
    have s2 := o2.sc (fun x hx => by omega)
    have h2 := h1.sc s2
    obtain ⟨σ3, e3, o3', r3⟩ := c_product hG (c_poly h2 ok hcons) (out := 177) (a := 6 + q) (b := 6 + r) ln_177 (ln_reg hq) (ln_reg hr10) (c_reg h2 hq) (c_reg h2 hr10) (by omega) n177 (by omega) (by omega) (sq.w hG (by omega)) (sr.w hG (by omega)) (reg_z6 ok q)
    have s3 := o3'.sc (fun x hx => by omega)
    have h3 := h2.sc s3
    obtain ⟨σ4, e4, o4, r4⟩ := c_product hG (c_poly h3 ok hcons) (out := 177) (a := 6 + p) (b := 177) ln_177 (ln_reg hp) ln_177 (c_reg h3 hp) r3 (by omega) n177 (by omega) (by omega) (sp.w hG (by omega)) ((sq.mul hG sr).w hG (by omega)) (reg_z6 ok p)
    have s4 := o4.sc (fun x hx => by omega)
    have h4 := h3.sc s4
    have r2' : H6 σ4 176 (mul (aG S) (mul (aG S) (aR S p) (aR S q)) (aR S r)) := (r2.keep o3' (by omega)).keep o4 (by omega)
    have hA := massoc hG hJ (a := aR S p) (b := aR S q) (c := aR S r)
    have e5 := c_same hG ln_176 ln_177 r2' r4 (((reg_z6 ok p).muls hG).muls hG) ((reg_z6 ok p).muls hG)
    rw [areS_eq hA] at e5
    have H4 : HI σ σ4 := s1.hi.trans (s2.hi.trans (s3.hi.trans s4.hi))
    obtain ⟨b3, τ, e6, q6, l6, _, _, hc6⟩ := r_cons (hr.hi H4).told ok
    have : b3 = true := hc6.mpr hcons
    subst this
    obtain ⟨⟨f, hf⟩, hI, hL, hM, h0, hRB⟩ := at_slots q6
    have f4 : LO σ4 (wI σ4 306 0 0) := LO.row (by omega)
    rw [e_gR ln_5 hp (by omega), rf_5 hp, e_gR ln_5 hq (by omega), rf_5 hq, e1, e_bs, e_gR ln_5 hr10 (by omega), rf_5 hr10, e2, e_bs, e_gR ln_5 hq (by omega), rf_5 hq, e_gR ln_5 hr10 (by omega), rf_5 hr10, e3, e_bs, e_gR ln_5 hp (by omega), rf_5 hp, e4, e_bs, e5, e_bs]
    have key : ∃ g, (f_X11_laysRegister τ 0 (i32 p)).bind (fun (σ7 : Mem) => (f_X11_laysRegister σ7 1 (i32 q)).bind (fun (σ8 : Mem) => (f_X11_laysRegister σ8 2 (i32 r)).bind (fun (σ9 : Mem) => (f_X11_copies σ9 0 3).bind (fun (σ10 : Mem) => (f_X11_times σ10 3 1).bind (fun (σ11 : Mem) => (f_X11_times σ11 3 2).bind (fun (σ12 : Mem) => (f_X11_copies σ12 1 4).bind (fun (σ13 : Mem) => (f_X11_times σ13 4 2).bind (fun (σ14 : Mem) => (f_X11_times σ14 0 4).bind (fun (σ15 : Mem) => (f_X11_areSame σ15 0 3).bind (fun (b16 : Bool) => if b16 then some ((1 : Int32), σ15) else some (0, σ15))))))))))) = some (1, PS τ g) := by
      let f1 := uS f 0 (aR S p)
      let f2 := uS f1 1 (aR S q)
      let f3 := uS f2 2 (aR S r)
      let f4 := uS f3 3 (f3 0)
      let f5 := uS f4 3 (mul (aG S) (f4 3) (f4 1))
      let f6 := uS f5 3 (mul (aG S) (f5 3) (f5 2))
      let f7 := uS f6 4 (f6 1)
      let f8 := uS f7 4 (mul (aG S) (f7 4) (f7 2))
      let f9 := uS f8 0 (mul (aG S) (f8 0) (f8 4))
      have a1 : f_X11_laysRegister τ 0 (i32 p) = some (PS τ f1) := by
        have := p_lays (σ := τ) (f := f) hRB ok (s := 0) (by omega) hp
        rw [hf] at this
        exact this
      have a2 : f_X11_laysRegister (PS τ f1) 1 (i32 q) = some (PS τ f2) := p_lays (σ := τ) (f := f1) hRB ok (s := 1) (by omega) hq
      have a3 : f_X11_laysRegister (PS τ f2) 2 (i32 r) = some (PS τ f3) := p_lays (σ := τ) (f := f2) hRB ok (s := 2) (by omega) hr10
      have v30 : f3 0 = aR S p := (uS_ne (by omega)).trans ((uS_ne (by omega)).trans (uS_self))
      have v31 : f3 1 = aR S q := (uS_ne (by omega)).trans (uS_self)
      have v32 : f3 2 = aR S r := uS_self
      have a4 : f_X11_copies (PS τ f3) 0 3 = some (PS τ f4) := p_copies (σ := τ) (f := f3) (s := 0) (r := 3) (by omega) (by omega) (by omega)
      have v43 : f4 3 = aR S p := uS_self.trans (v30)
      have v41 : f4 1 = aR S q := (uS_ne (by omega)).trans (v31)
      have a5 : f_X11_times (PS τ f4) 3 1 = some (PS τ f5) := p_times (σ := τ) (f := f4) hM hG h0 (s := 3) (r := 1) (by omega) (by omega) (by omega) (by rw [v43]; exact sp.s30 (by omega)) (by rw [v41]; exact sq.s30 (by omega))
      have v53 : f5 3 = mul (aG S) (aR S p) (aR S q) := uS_self.trans (by rw [v43, v41])
      have v52 : f5 2 = aR S r := (uS_ne (by omega)).trans ((uS_ne (by omega)).trans (v32))
      have a6 : f_X11_times (PS τ f5) 3 2 = some (PS τ f6) := p_times (σ := τ) (f := f5) hM hG h0 (s := 3) (r := 2) (by omega) (by omega) (by omega) (by rw [v53]; exact (sp.mul hG sq).s30 (by omega)) (by rw [v52]; exact sr.s30 (by omega))
      have v63 : f6 3 = mul (aG S) (mul (aG S) (aR S p) (aR S q)) (aR S r) := uS_self.trans (by rw [v53, v52])
      have v61 : f6 1 = aR S q := (uS_ne (by omega)).trans ((uS_ne (by omega)).trans (v41))
      have v62 : f6 2 = aR S r := (uS_ne (by omega)).trans (v52)
      have v60 : f6 0 = aR S p := (uS_ne (by omega)).trans ((uS_ne (by omega)).trans ((uS_ne (by omega)).trans (v30)))
      have a7 : f_X11_copies (PS τ f6) 1 4 = some (PS τ f7) := p_copies (σ := τ) (f := f6) (s := 1) (r := 4) (by omega) (by omega) (by omega)
      have v74 : f7 4 = aR S q := uS_self.trans (v61)
      have v72 : f7 2 = aR S r := (uS_ne (by omega)).trans (v62)
      have a8 : f_X11_times (PS τ f7) 4 2 = some (PS τ f8) := p_times (σ := τ) (f := f7) hM hG h0 (s := 4) (r := 2) (by omega) (by omega) (by omega) (by rw [v74]; exact sq.s30 (by omega)) (by rw [v72]; exact sr.s30 (by omega))
      have v84 : f8 4 = mul (aG S) (aR S q) (aR S r) := uS_self.trans (by rw [v74, v72])
      have v80 : f8 0 = aR S p := (uS_ne (by omega)).trans ((uS_ne (by omega)).trans (v60))
      have v83 : f8 3 = mul (aG S) (mul (aG S) (aR S p) (aR S q)) (aR S r) := (uS_ne (by omega)).trans ((uS_ne (by omega)).trans (v63))
      have a9 : f_X11_times (PS τ f8) 0 4 = some (PS τ f9) := p_times (σ := τ) (f := f8) hM hG h0 (s := 0) (r := 4) (by omega) (by omega) (by omega) (by rw [v80]; exact sp.s30 (by omega)) (by rw [v84]; exact (sq.mul hG sr).s30 (by omega))
      have v90 : f9 0 = mul (aG S) (aR S p) (mul (aG S) (aR S q) (aR S r)) := uS_self.trans (by rw [v80, v84])
      have v93 : f9 3 = mul (aG S) (mul (aG S) (aR S p) (aR S q)) (aR S r) := (uS_ne (by omega)).trans (v83)
      have a10 : f_X11_areSame (PS τ f9) 0 3 = some (areS (aG S) (f9 0) (f9 3)) := p_areSame (σ := τ) (f := f9) hM hG (s := 0) (r := 3) (by omega) (by omega)
      rw [v90, v93, areS_eq hA.symm] at a10
      exact ⟨f9, by rw [a1, e_bs, a2, e_bs, a3, e_bs, a4, e_bs, a5, e_bs, a6, e_bs, a7, e_bs, a8, e_bs, a9, e_bs, a10, e_bs, if_pos rfl]⟩
    obtain ⟨g, hg⟩ := key
    refine ⟨1, σ4, PS τ g, rfl, ?_, fin_q ok h4 (hI g) (f4.trans (l6.trans (hL _)))⟩
    unfold f_X11_associates
    rw [e_pF, r_isReg, e_bs, hx, if_pos rfl, r_isReg, e_bs, hy, if_pos rfl, r_isReg, e_bs, hz, if_pos rfl, e6, e_bq, if_pos rfl]
    exact hg
  · obtain ⟨b3, τ, e6, q6, l6, _, _, hc6⟩ := r_cons hr.told ok
    have hbb : b3 = b := bool_iff hc6 hB
    subst hbb
    have hcl : (if (isReg x && (isReg y && b3)) = true then ((some (isReg z) : Option Bool).bind (fun (b2 : Bool) => if b2 then gR 5 x (fun (p3 : Nat) => gR 5 y (fun (p4 : Nat) => (f_X0_product σ 176 p3 p4).bind (fun (σ5 : Mem) => gR 5 z (fun (p6 : Nat) => (f_X0_product σ5 176 176 p6).bind (fun (σ7 : Mem) => gR 5 y (fun (p8 : Nat) => gR 5 z (fun (p9 : Nat) => (f_X0_product σ7 177 p8 p9).bind (fun (σ10 : Mem) => gR 5 x (fun (p11 : Nat) => (f_X0_product σ10 177 p11 177).bind (fun (σ12 : Mem) => (f_X0_areSame σ12 176 177).bind (fun (b13 : Bool) => (f_X10_bit σ12 b13).bind (fun (v14 : Int32) => some (v14, σ12))))))))))))) else some ((-1), σ))) else some ((-1), σ) : Option (Int32 × Mem)) = some (-1, σ) := by
      by_cases h1 : isReg x = true ∧ isReg y = true ∧ b3 = true
      · rw [h1.1, h1.2.1, h1.2.2, Bool.and_self, Bool.and_self, if_pos rfl, e_bs, nb (fun q => hall ⟨h1.1, h1.2.1, q, h1.2.2⟩), if_neg (by decide)]
      · rw [and3 h1, if_neg (by decide)]
    rw [hcl]
    by_cases hreg : isReg x = true ∧ isReg y = true ∧ isReg z = true
    · refine ⟨-1, σ, τ, rfl, ?_, fin_q ok h q6 (f0.trans l6)⟩
      unfold f_X11_associates
      rw [e_pF, r_isReg, e_bs, hreg.1, if_pos rfl, r_isReg, e_bs, hreg.2.1, if_pos rfl, r_isReg, e_bs, hreg.2.2, if_pos rfl, e6, e_bq, nb (fun q => hall ⟨hreg.1, hreg.2.1, hreg.2.2, q⟩), if_neg (by decide)]
    · refine ⟨-1, σ, _, rfl, ?_, fin_q ok h hr.told f0⟩
      unfold f_X11_associates
      rw [e_pF, r_isReg, e_bs]
      cases hx : isReg x with
      | false => rw [if_neg (by decide)]
      | true =>
        rw [if_pos rfl, r_isReg, e_bs]
        cases hy : isReg y with
        | false => rw [if_neg (by decide)]
        | true =>
          rw [if_pos rfl, r_isReg, e_bs, nb (fun q => hreg ⟨hx, hy, q⟩), if_neg (by decide)]
theorem ok_24 : Ok_24 II := by
  intro c σ x y w hc ⟨S, ok, h, hr⟩
  have hG : GOK (aG S) := ok.1.1
  have hn : gn (aG S) ≤ 6 := hG.2.1
  obtain ⟨b, hb, hB⟩ := c_cons h
  have ew := fun τ : Mem => r_in (σ := τ) (x := w) (l := 0) (u := 2) ⟨by omega, by omega⟩ ⟨by omega, by omega⟩
  have f0 : LO σ (wI σ 306 0 0) := LO.row (by omega)
  unfold f_X10_both
  rw [c_areUsable hb, e_bs]
  by_cases hall : isReg x = true ∧ isReg y = true ∧ b = true
  · obtain ⟨hx, hy, hbt⟩ := hall
    have hcons := hB.mp hbt
    have hJ := Cons.jac hG hcons
    rw [hx, hy, hbt, Bool.and_self, Bool.and_self, if_pos rfl]
    obtain ⟨p, hp, rfl⟩ := isReg_idx hx
    obtain ⟨q, hq, rfl⟩ := isReg_idx hy
    rw [e_gR ln_5 hp (by omega), rf_5 hp, e_gR ln_5 hq (by omega), rf_5 hq]
    -- the reference, behind any of the class's ways
    have ref : ∀ σ2, HI σ σ2 → ∃ τ, LO σ2 τ ∧ MG τ (aG S) ∧ M0 τ ∧ (∀ g, IRef S (PS τ g)) ∧ (∀ g, LO τ (PS τ g)) ∧ IRef S τ ∧ ∃ f, f 0 = aR S p ∧ f 1 = aR S q ∧ ∀ r τ', ((0 ≤ w.toInt ∧ w.toInt ≤ 2) → (if w = 2 then ((f_X11_firstApart (PS τ f)).bind (fun (v12 : Int32) => some (v12, PS τ f))) else ((f_X11_commutator (PS τ f) 0 1 2).bind (fun (σ9 : Mem) => if w = 1 then ((f_X11_layer σ9 2).bind (fun (v11 : Int32) => some (v11, σ9))) else ((f_X11_isOne σ9 2).bind (fun (b10 : Bool) => if b10 then some (1, σ9) else some (0, σ9))))) : Option (Int32 × Mem)) = some (r, τ')) → (¬ (0 ≤ w.toInt ∧ w.toInt ≤ 2) → r = -1 ∧ τ' = τ) → f_X11_both σ2 (i32 p) (i32 q) w = some (r, τ') := by
      intro σ2 hi2
      obtain ⟨b3, τ, e3, q3, l3, _, _, hc3⟩ := r_cons (hr.hi hi2).told ok
      have : b3 = true := hc3.mpr hcons
      subst this
      obtain ⟨⟨f, hf⟩, hI, hL, hM, h0, hRB⟩ := at_slots q3
      have f2 : LO σ2 (wI σ2 306 0 0) := LO.row (by omega)
      have a1 : f_X11_laysRegister τ 0 (i32 p) = some (PS τ (uS f 0 (aR S p))) := by
        have := p_lays (σ := τ) (f := f) hRB ok (s := 0) (by omega) hp
        rw [hf] at this
        exact this
      have a2 : f_X11_laysRegister (PS τ (uS f 0 (aR S p))) 1 (i32 q) = some (PS τ (uS (uS f 0 (aR S p)) 1 (aR S q))) := p_lays (σ := τ) (f := uS f 0 (aR S p)) hRB ok (s := 1) (by omega) hq
      refine ⟨τ, f2.trans l3, hM, h0, hI, hL, q3, uS (uS f 0 (aR S p)) 1 (aR S q), by rw [uS_ne (by omega), uS_self], uS_self, fun r τ' h1 h2 => ?_⟩
      unfold f_X11_both
      rw [e_pF, r_isReg, e_bs, hx, if_pos rfl, r_isReg, e_bs, hy, if_pos rfl, e3, e_bq, if_pos rfl, show (0 : Int64) = oi 0 from rfl, show (2 : Int64) = oi 2 from rfl, ew, e_bs]
      by_cases hw : 0 ≤ w.toInt ∧ w.toInt ≤ 2
      · rw [decide_eq_true hw, if_pos rfl, a1, e_bs, a2, e_bs]
        exact h1 hw
      · obtain ⟨rfl, rfl⟩ := h2 hw
        rw [decide_eq_false hw, if_neg (by decide)]
    have sp := reg_sb ok p
    have sq := reg_sb ok q
    by_cases w0 : w = 0
    · subst w0
      rw [if_pos rfl]
      obtain ⟨σ1, e1, o1⟩ := c_doCommute hG (c_poly h ok hcons) (a := 6 + p) (b := 6 + q) (ln_reg hp) (ln_reg hq) (c_reg h hp) (c_reg h hq) (by omega) (by omega) (M := 999) (by omega) (by omega) sp sq (reg_z6 ok p) (reg_z6 ok q)
      have s1 := o1.sc (fun x hx => by omega)
      obtain ⟨τ, l2, hM, h0, hI, hL, _, f, hf0, hf1, href⟩ := ref σ1 s1.hi
      obtain ⟨g, e2, g2, _⟩ := p_commutator (σ := τ) (f := f) hM hG h0 (s := 0) (r := 1) (t := 2) (by omega) (by omega) (by omega) (by omega) (by omega) (B := 999) (by omega) (by omega) (by rw [hf0]; exact sp) (by rw [hf1]; exact sq)
      rw [hf0, hf1] at g2
      have e2' : f_X11_commutator (PS τ f) 0 1 2 = some (PS τ g) := e2
      have e3 : f_X11_isOne (PS τ g) 2 = some (isO (aG S) (g 2)) := p_isOne (σ := τ) (f := g) hM hG (s := 2) (by omega)
      rw [g2, isO_comm hG hJ] at e3
      rw [e1, e_bq]
      have hb1 : f_X10_bit σ1 (areS (aG S) (mul (aG S) (aR S p) (aR S q)) (mul (aG S) (aR S q) (aR S p))) = some (if areS (aG S) (mul (aG S) (aR S p) (aR S q)) (mul (aG S) (aR S q) (aR S p)) = true then 1 else 0) := by
        unfold f_X10_bit
        split <;> rfl
      rw [hb1, e_bs]
      refine ⟨_, σ1, PS τ g, rfl, href _ _ (fun _ => ?_) (fun z => absurd z (by decide)), fin_q ok (h.sc s1) (hI g) (l2.trans (hL _))⟩
      rw [if_neg (by decide), e2', e_bs, if_neg (by decide), e3, e_bs]
      split <;> rfl
    · rw [if_neg w0]
      by_cases w1 : w = 1
      · subst w1
        rw [if_pos rfl]
        obtain ⟨σ1, e1, o1, r1⟩ := c_commutator hG (c_poly h ok hcons) (out := 176) (a := 6 + p) (b := 6 + q) ln_176 (ln_reg hp) (ln_reg hq) (c_reg h hp) (c_reg h hq) (by omega) (by omega) ns176 (by omega) (by omega) (M := 999) (by omega) (by omega) sp sq (reg_z6 ok p) (reg_z6 ok q)
        have s1 := o1.sc (fun x hx => by omega)
        obtain ⟨r, e4, hL1⟩ := c_layerOf hG (h.sc s1).1.1 ln_176 r1
        obtain ⟨τ, l2, hM, h0, hI, hL, _, f, hf0, hf1, href⟩ := ref σ1 s1.hi
        obtain ⟨g, e2, g2, _⟩ := p_commutator (σ := τ) (f := f) hM hG h0 (s := 0) (r := 1) (t := 2) (by omega) (by omega) (by omega) (by omega) (by omega) (B := 999) (by omega) (by omega) (by rw [hf0]; exact sp) (by rw [hf1]; exact sq)
        rw [hf0, hf1] at g2
        have e2' : f_X11_commutator (PS τ f) 0 1 2 = some (PS τ g) := e2
        obtain ⟨r', e3, hL2⟩ := r_layer (σ := τ) (f := g) hG hM (s := 2) (by omega)
        rw [g2] at hL2
        have hrr : r' = r := hL2.uniq (hL1.congr (comm_eq hG hJ))
        subst hrr
        have e3' : f_X11_layer (PS τ g) 2 = some r' := e3
        rw [e1, e_bs, e4, e_bs]
        refine ⟨r', σ1, PS τ g, rfl, href _ _ (fun _ => ?_) (fun z => absurd z (by decide)), fin_q ok (h.sc s1) (hI g) (l2.trans (hL _))⟩
        rw [if_neg (by decide), e2', e_bs, if_pos rfl, e3', e_bs]
      · rw [if_neg w1]
        by_cases w2 : w = 2
        · subst w2
          rw [if_pos rfl]
          obtain ⟨r, e1, hF1⟩ := c_firstDiff hn h.1.1.1 (ln_reg hp) (ln_reg hq) (c_reg h hp) (c_reg h hq)
          obtain ⟨τ, l2, hM, h0, hI, hL, _, f, hf0, hf1, href⟩ := ref σ HI.refl
          obtain ⟨r', e3, hF2⟩ := r_firstApart (σ := τ) (f := f) hG hM
          rw [hf0, hf1] at hF2
          have hrr : r' = r := hF2.uniq hF1
          subst hrr
          rw [e1, e_bs]
          refine ⟨r', σ, PS τ f, rfl, href _ _ (fun _ => ?_) (fun z => absurd z (by decide)), fin_q ok h (hI f) (l2.trans (hL _))⟩
          rw [if_pos rfl, e3, e_bs]
        · rw [if_neg w2]
          obtain ⟨τ, l2, hM, h0, hI, hL, hI0, f, hf0, hf1, href⟩ := ref σ HI.refl
          have hno : ¬ (0 ≤ w.toInt ∧ w.toInt ≤ 2) := by
            rintro ⟨z1, z2⟩
            have hz := i32_of z1
            rcases (show w.toInt.toNat = 0 ∨ w.toInt.toNat = 1 ∨ w.toInt.toNat = 2 by omega) with t | t | t
            · rw [t] at hz; exact w0 hz
            · rw [t] at hz; exact w1 hz
            · rw [t] at hz; exact w2 hz
          exact ⟨-1, σ, τ, rfl, href _ _ (fun z => absurd z hno) (fun _ => ⟨rfl, rfl⟩), fin_q ok h hI0 l2⟩
  · obtain ⟨b3, τ, e6, q6, l6, _, _, hc6⟩ := r_cons hr.told ok
    have hbb : b3 = b := bool_iff hc6 hB
    subst hbb
    rw [and3 hall, if_neg (by decide)]
    by_cases hreg : isReg x = true ∧ isReg y = true
    · refine ⟨-1, σ, τ, rfl, ?_, fin_q ok h q6 (f0.trans l6)⟩
      unfold f_X11_both
      rw [e_pF, r_isReg, e_bs, hreg.1, if_pos rfl, r_isReg, e_bs, hreg.2, if_pos rfl, e6, e_bq, nb (fun q => hall ⟨hreg.1, hreg.2, q⟩), if_neg (by decide)]
    · refine ⟨-1, σ, _, rfl, ?_, fin_q ok h hr.told f0⟩
      unfold f_X11_both
      rw [e_pF, r_isReg, e_bs]
      cases hx : isReg x with
      | false => rw [if_neg (by decide)]
      | true => rw [if_pos rfl, r_isReg, e_bs, nb (fun q => hreg ⟨hx, q⟩), if_neg (by decide)]
end PWS
end
section
/-! feed, end: the calls -/
section FDS
variable {σ : Mem}
/-- a tape at (a, c), its letters in r -/
def TpA (σ : Mem) (a c r : Nat) (w : List Nat) : Prop := σ.1 a c = i32 w.length ∧ ∀ p x, w[p]? = some x → σ.1 r p = i32 x
def FTp (a c r : Nat) (σ τ : Mem) : Prop := τ.2 = σ.2 ∧ (∀ x, x ≠ a → x ≠ r → τ.1 x = σ.1 x) ∧ ∀ k, k ≠ c → τ.1 a k = σ.1 a k
theorem FTp.refl {a c r : Nat} : FTp a c r σ σ := ⟨rfl, fun _ _ _ => rfl, fun _ _ => rfl⟩
theorem FTp.trans {a c r : Nat} {τ υ : Mem} (h : FTp a c r σ τ) (k : FTp a c r τ υ) : FTp a c r σ υ := ⟨k.1.trans h.1, fun x h1 h2 => (k.2.1 x h1 h2).trans (h.2.1 x h1 h2), fun d hd => (k.2.2 d hd).trans (h.2.2 d hd)⟩
theorem ICls.tape {c : Nat} {S : AS} {τ : Mem} {w : List Nat} (h : ICls c S σ) (f : FTp 0 7 34 σ τ) (hw : CTape τ w) : ICls c (aX S, aT S, aA S, aI S, w, aF S) τ := by
  obtain ⟨h1, h2, h3, h4, h5, h6, h7⟩ := h
  have g : ∀ x, x ≠ 0 → x ≠ 34 → τ.1 x = σ.1 x := f.2.1
  have g2 : ∀ x, τ.2 x = σ.2 x := fun x => by rw [f.1]
  obtain ⟨a1, nxt, a2, a3, a4⟩ := h3
  refine ⟨h1.eqs (fun x a b => g x (by omega) (by omega)) (fun x _ _ => g2 x), h2.eqs (g 16 (by omega) (by omega)), ⟨by rw [f.2.2 4 (by omega)]; exact a1, nxt, a2, by rw [f.2.2 5 (by omega)]; exact a3, fun j X hj => (a4 j X hj).eqs (fun x b1 b2 => g x ?_ ?_) (fun x _ _ => g2 x)⟩, ⟨by rw [f.2.2 2 (by omega)]; exact h4.1, fun y hy => ⟨(h4.2 y hy).1.eqs (fun x a b => g x (by omega) (by omega)) (fun x _ _ => g2 x), (h4.2 y hy).2.eqs (g 32 (by omega) (by omega))⟩⟩, hw, ⟨by rw [g 144 (by omega) (by omega)]; exact h6.1, by rw [g 144 (by omega) (by omega)]; exact h6.2⟩, h7.eqs (fun c _ => by rw [g 40 (by omega) (by omega)]) (fun x hx => g x (by omega) (by omega)) (fun x _ => g2 x)⟩
  · unfold cA at b1; omega
  · unfold cA at b1; omega
theorem IRef.tape {S : AS} {τ : Mem} {w : List Nat} (h : IRef S σ) (f : FTp 306 18 317 σ τ) (hw : RTape τ w) : IRef (aX S, aT S, aA S, aI S, w, aF S) τ := by
  obtain ⟨h1, h2, h3, h4, h5, h6, h7, h8⟩ := h
  have g : ∀ x, x ≠ 306 → x ≠ 317 → τ.1 x = σ.1 x := f.2.1
  have k : ∀ c, c ≠ 18 → τ.1 306 c = σ.1 306 c := f.2.2
  exact ⟨h1.eqs (g 307 (by omega) (by omega)), ⟨by rw [k 4 (by omega)]; exact h2.1, by rw [k 27 (by omega)]; exact h2.2.1, fun i hi => by rw [g 318 (by omega) (by omega)]; exact h2.2.2 i hi⟩, ⟨by rw [k 3 (by omega)]; exact h3.1, fun j X hj => (h3.2 j X hj).eqs (g 308 (by omega) (by omega))⟩, ⟨by rw [k 37 (by omega)]; exact h4.1, fun y hy => by
    rw [g 323 (by omega) (by omega)]
    exact ⟨(h4.2 y hy).1.eqs (g 323 (by omega) (by omega)), (h4.2 y hy).2⟩⟩, hw, ⟨by rw [k 19 (by omega)]; exact h6.1, by rw [k 20 (by omega)]; exact h6.2⟩, h7.eqs (k 9 (by omega)) (k 10 (by omega)) (g 311 (by omega) (by omega)) (by rw [f.1]), fun m hm => by rw [f.1]; exact h8 m hm⟩
theorem FTp.hi {τ : Mem} (f : FTp 0 7 34 σ τ) : HI σ τ := fun x hx => ⟨f.2.1 x (by omega) (by omega), by rw [f.1]⟩
theorem FTp.lo {τ : Mem} (f : FTp 306 18 317 σ τ) : LO σ τ := fun x hx => ⟨f.2.1 x (by omega) (by omega), by rw [f.1]⟩
theorem TpA.put {a c r b : Nat} {w : List Nat} (h : TpA σ a c r w) (ha : a ≠ r) : TpA (wI (wI σ r w.length (i32 b)) a c (i32 w.length + 1)) a c r (w ++ [b]) ∧ FTp a c r σ (wI (wI σ r w.length (i32 b)) a c (i32 w.length + 1)) := by
  refine ⟨⟨?_, fun p x hp => ?_⟩, rfl, fun x h1 h2 => ?_, fun k hk => ?_⟩
  · rw [wI_1, if_pos ⟨rfl, rfl⟩, i32_1, i32_add, List.length_append, List.length_singleton]
  · rw [wI_1, if_neg (fun q => ha q.1.symm), wI_1]
    by_cases hpl : p = w.length
    · subst hpl
      rw [List.getElem?_append_right (by omega), Nat.sub_self] at hp
      have : b = x := Option.some.inj hp
      rw [if_pos ⟨rfl, rfl⟩, this]
    · rw [if_neg (fun q => hpl q.2)]
      have hlt : p < w.length := by
        have := (List.getElem?_eq_some_iff.mp hp).1
        rw [List.length_append, List.length_singleton] at this
        omega
      rw [List.getElem?_append_left hlt] at hp
      exact h.2 p x hp
  · funext y
    rw [wI_1, if_neg (fun q => h1 q.1), wI_1, if_neg (fun q => h2 q.1)]
  · rw [wI_1, if_neg (fun q => hk q.2), wI_1, if_neg (fun q => ha q.1)]
/-- a number's bytes -/
def ix (j : Nat) : Int32 := i32 24 - i32 (8 * j)
def bt (x : Int32) (j : Nat) : Nat := (x >>> (ix j &&& 31)).toBitVec.toNat % 2 ^ 8
def bl (x : Int32) : Nat → List Nat
  | 0 => []
  | j + 1 => bl x j ++ [bt x j]
theorem bl_len {x : Int32} : ∀ j, (bl x j).length = j
  | 0 => rfl
  | j + 1 => by rw [bl, List.length_append, bl_len j]; rfl
theorem bl_lt {x : Int32} : ∀ j y, y ∈ bl x j → y < 256
  | 0, y, h => absurd h (List.not_mem_nil)
  | j + 1, y, h => by
    rw [bl, List.mem_append, List.mem_singleton] at h
    rcases h with h | h
    · exact bl_lt j y h
    · subst h; exact Nat.mod_lt _ (by omega)
theorem i32_ofbv (y : Int32) : y = i32 y.toBitVec.toNat := by
  rw [← Int32.toBitVec_inj]
  show y.toBitVec = BitVec.ofNat 32 y.toBitVec.toNat
  rw [BitVec.ofNat_toNat, BitVec.setWidth_eq]
theorem bt_eq {x : Int32} {j : Nat} : (x >>> (ix j &&& 31)) &&& 255 = i32 (bt x j) := by
  have h := i_andmask (x >>> (ix j &&& 31)).toBitVec.toNat 8
  rw [← i32_ofbv] at h
  exact h
theorem ix_next {j : Nat} (h : j < 4) : ¬ ix j < 0 ∧ ix j + -8 = ix (j + 1) := by
  rcases (show j = 0 ∨ j = 1 ∨ j = 2 ∨ j = 3 by omega) with z | z | z | z <;> subst z <;> decide
theorem c_feedNumber {x : Int32} {w : List Nat} (h : CTape σ w) (hw : w.length ≤ 196) : ∃ τ, f_X10_feedNumber σ x = some τ ∧ CTape τ (w ++ bl x 4) ∧ FTp 0 7 34 σ τ := by
  have hl := loop_inv (body := fun (z2 : (Mem × Int32)) => l_X10_feedNumber_3 x z2.1 z2.2) (fun n z => ∃ j τ, j ≤ 4 ∧ n = 4 - j ∧ z = (τ, ix j) ∧ CTape τ (w ++ bl x j) ∧ FTp 0 7 34 σ τ) (fun τ => CTape τ (w ++ bl x 4) ∧ FTp 0 7 34 σ τ) ?_ 4 (σ, 24) ⟨0, σ, by omega, rfl, rfl, by rw [bl, List.append_nil]; exact h, FTp.refl⟩
  · obtain ⟨τ, e, h1, h2⟩ := hl
    exact ⟨τ, e, h1, h2⟩
  · rintro n z ⟨j, τ, hj, hn, rfl, h1, h2⟩
    by_cases hj4 : j = 4
    · right
      subst hj4
      refine ⟨τ, ?_, h1, h2⟩
      show l_X10_feedNumber_3 x τ (ix 4) = _
      unfold l_X10_feedNumber_3
      rw [if_pos (by decide)]
    · left
      have hn2 := ix_next (j := j) (by omega)
      have hlen : (w ++ bl x j).length = w.length + j := by rw [List.length_append, bl_len]
      have hp := TpA.put (b := bt x j) (show TpA τ 0 7 34 _ from h1) (by omega)
      rw [List.append_assoc, hlen] at hp
      refine ⟨(_, ix (j + 1)), 4 - (j + 1), by omega, ?_, j + 1, _, by omega, rfl, rfl, hp.1, h2.trans hp.2⟩
      show l_X10_feedNumber_3 x τ (ix j) = _
      unfold l_X10_feedNumber_3
      have h7 : τ.1 0 7 = i32 (w.length + j) := by rw [← hlen]; exact h1.1
      rw [if_neg hn2.1, e_gF, h7, show (200 : Int32) = i32 200 from rfl, if_neg (i_nle (by omega) (by omega)), e_gF, h7, bt_eq, e_pI ln_34 (by omega) (by omega), e_gF, wI_1, if_neg (by omega), h7, e_pF, hn2.2]
theorem r_types {x : Int32} {w : List Nat} (h : RTape σ w) (hw : w.length ≤ 196) : ∃ τ, f_X11_types σ x = some τ ∧ RTape τ (w ++ bl x 4) ∧ FTp 306 18 317 σ τ := by
  have hl := loop_inv (body := fun (z2 : (Mem × Int32)) => l_X11_types_3 x z2.1 z2.2) (fun n z => ∃ j τ, j ≤ 4 ∧ n = 4 - j ∧ z = (τ, ix j) ∧ RTape τ (w ++ bl x j) ∧ FTp 306 18 317 σ τ) (fun τ => RTape τ (w ++ bl x 4) ∧ FTp 306 18 317 σ τ) ?_ 4 (σ, 24) ⟨0, σ, by omega, rfl, rfl, by rw [bl, List.append_nil]; exact h, FTp.refl⟩
  · obtain ⟨τ, e, h1, h2⟩ := hl
    exact ⟨τ, e, h1, h2⟩
  · rintro n z ⟨j, τ, hj, hn, rfl, h1, h2⟩
    by_cases hj4 : j = 4
    · right
      subst hj4
      refine ⟨τ, ?_, h1, h2⟩
      show l_X11_types_3 x τ (ix 4) = _
      unfold l_X11_types_3
      rw [if_pos (by decide)]
    · left
      have hn2 := ix_next (j := j) (by omega)
      have hlen : (w ++ bl x j).length = w.length + j := by rw [List.length_append, bl_len]
      have hp := TpA.put (b := bt x j) (show TpA τ 306 18 317 _ from h1) (by omega)
      rw [List.append_assoc, hlen] at hp
      refine ⟨(_, ix (j + 1)), 4 - (j + 1), by omega, ?_, j + 1, _, by omega, rfl, rfl, hp.1, h2.trans hp.2⟩
      show l_X11_types_3 x τ (ix j) = _
      unfold l_X11_types_3
      have h7 : τ.1 306 18 = i32 (w.length + j) := by rw [← hlen]; exact h1.1
      rw [if_neg hn2.1, e_gF, h7, bt_eq, e_pI ln_317 (by omega) (by omega), e_gF, wI_1, if_neg (by omega), h7, e_pF, hn2.2]
theorem tape_ok {S : AS} {w : List Nat} (ok : OKS S) (h1 : w.length ≤ 200) (h2 : ∀ x, x ∈ w → x < 256) : OKS (aX S, aT S, aA S, aI S, w, aF S) := ⟨ok.1, ok.2.1, ok.2.2.1, ok.2.2.2.1, h1, h2⟩
theorem mem_bl {w : List Nat} {x : Int32} (h : ∀ y : Nat, y ∈ w → y < 256) : ∀ y : Nat, y ∈ w ++ bl x 4 → y < 256 := fun y hy => by
  rcases List.mem_append.mp hy with q | q
  · exact h y q
  · exact bl_lt 4 y q
theorem ok_11 : Ok_11 II := by
  intro c σ x0 x1 x2 x3 x4 hc ⟨S, ok, h, hr⟩
  have hT := ok.2.2.2.2
  have hL : (aP S).length ≤ 200 := hT.1
  have hr0 := hr.told
  have f0 : LO σ (wI σ 306 0 0) := LO.row (by omega)
  unfold f_X10_feed f_X11_feed
  have h5 : CTape σ (aP S) := h.2.2.2.2.1
  have r5 : RTape σ (aP S) := hr.2.2.2.2.1
  rw [e_gF, h5.1, show (180 : Int32) = i32 180 from rfl]
  by_cases hle : (aP S).length ≤ 180
  · obtain ⟨σ1, e1, t1, g1⟩ := c_feedNumber (x := x0) h5 (by omega)
    have l1 : (aP S ++ bl x0 4).length = (aP S).length + 4 := by rw [List.length_append, bl_len]
    obtain ⟨σ2, e2, t2, g2⟩ := c_feedNumber (x := x1) t1 (by omega)
    have l2 : (aP S ++ bl x0 4 ++ bl x1 4).length = (aP S).length + 8 := by rw [List.length_append, bl_len, l1]
    obtain ⟨σ3, e3, t3, g3⟩ := c_feedNumber (x := x2) t2 (by omega)
    have l3 : (aP S ++ bl x0 4 ++ bl x1 4 ++ bl x2 4).length = (aP S).length + 12 := by rw [List.length_append, bl_len, l2]
    obtain ⟨σ4, e4, t4, g4⟩ := c_feedNumber (x := x3) t3 (by omega)
    have l4 : (aP S ++ bl x0 4 ++ bl x1 4 ++ bl x2 4 ++ bl x3 4).length = (aP S).length + 16 := by rw [List.length_append, bl_len, l3]
    obtain ⟨σ5, e5, t5, g5⟩ := c_feedNumber (x := x4) t4 (by omega)
    have l5 : (aP S ++ bl x0 4 ++ bl x1 4 ++ bl x2 4 ++ bl x3 4 ++ bl x4 4).length = (aP S).length + 20 := by rw [List.length_append, bl_len, l4]
    have G := g1.trans (g2.trans (g3.trans (g4.trans g5)))
    have hr5 := (hr.hi G.hi).told
    have r5' : RTape (wI σ5 306 0 0) (aP S) := hr5.2.2.2.2.1
    obtain ⟨τ1, k1, u1, q1⟩ := r_types (x := x0) r5' (by omega)
    obtain ⟨τ2, k2, u2, q2⟩ := r_types (x := x1) u1 (by omega)
    obtain ⟨τ3, k3, u3, q3⟩ := r_types (x := x2) u2 (by omega)
    obtain ⟨τ4, k4, u4, q4⟩ := r_types (x := x3) u3 (by omega)
    obtain ⟨τ5, k5, u5, q5⟩ := r_types (x := x4) u4 (by omega)
    have Q := q1.trans (q2.trans (q3.trans (q4.trans q5)))
    rw [if_pos (i_le hle (by omega)), e1, e_bs, e2, e_bs, e3, e_bs, e4, e_bs, e5, e_bs, e_gF, t5.1]
    refine ⟨_, _, τ5, rfl, ?_, (aX S, aT S, aA S, aI S, aP S ++ bl x0 4 ++ bl x1 4 ++ bl x2 4 ++ bl x3 4 ++ bl x4 4, aF S), tape_ok ok (by omega) (mem_bl (mem_bl (mem_bl (mem_bl (mem_bl hT.2))))), ((h.tape G t5).lo ((LO.row (by omega)).trans Q.lo)).up, hr5.tape Q u5⟩
    rw [e_pF, e_gF, r5'.1, if_pos (i_le hle (by omega)), k1, e_bs, k2, e_bs, k3, e_bs, k4, e_bs, k5, e_bs, e_gF, u5.1]
  · have r5' : RTape (wI σ 306 0 0) (aP S) := hr0.2.2.2.2.1
    rw [if_neg (i_nle (by omega) (by omega))]
    refine ⟨_, _, _, rfl, ?_, fin_q ok h hr0 f0⟩
    rw [e_pF, e_gF, r5'.1, if_neg (i_nle (by omega) (by omega))]
theorem CTape.cut {w : List Nat} {n : Nat} (h : CTape σ w) (hn : n ≤ w.length) : CTape (wI σ 0 7 (i32 n)) (w.take n) ∧ FTp 0 7 34 σ (wI σ 0 7 (i32 n)) := by
  refine ⟨⟨by rw [wI_1, if_pos ⟨rfl, rfl⟩, List.length_take, Nat.min_eq_left hn], fun p x hp => ?_⟩, rfl, fun x h1 _ => by funext y; rw [wI_1, if_neg (fun q => h1 q.1)], fun k hk => by rw [wI_1, if_neg (fun q => hk q.2)]⟩
  rw [wI_1, if_neg (by omega)]
  refine h.2 p x ?_
  rw [List.getElem?_take] at hp
  split at hp
  · exact hp
  · cases hp
theorem RTape.cut {w : List Nat} {n : Nat} (h : RTape σ w) (hn : n ≤ w.length) : RTape (wI σ 306 18 (i32 n)) (w.take n) ∧ FTp 306 18 317 σ (wI σ 306 18 (i32 n)) := by
  refine ⟨⟨by rw [wI_1, if_pos ⟨rfl, rfl⟩, List.length_take, Nat.min_eq_left hn], fun p x hp => ?_⟩, rfl, fun x h1 _ => by funext y; rw [wI_1, if_neg (fun q => h1 q.1)], fun k hk => by rw [wI_1, if_neg (fun q => hk q.2)]⟩
  rw [wI_1, if_neg (by omega)]
  refine h.2 p x ?_
  rw [List.getElem?_take] at hp
  split at hp
  · exact hp
  · cases hp
theorem cut_ok {S : AS} (ok : OKS S) (n : Nat) : OKS (aX S, aT S, aA S, aI S, (aP S).take n, aF S) := tape_ok ok (Nat.le_trans (by rw [List.length_take]; exact Nat.min_le_right _ _) ok.2.2.2.2.1) (fun x hx => ok.2.2.2.2.2 x (List.mem_of_mem_take hx))
theorem ok_12 : Ok_12 II := by
  intro c σ x hc ⟨S, ok, h, hr⟩
  have hL : (aP S).length ≤ 200 := ok.2.2.2.2.1
  have hr0 := hr.told
  have f0 : LO σ (wI σ 306 0 0) := LO.row (by omega)
  have h5 : CTape σ (aP S) := h.2.2.2.2.1
  have e := fun τ : Mem => r_in (σ := τ) (x := x) (l := 0) (u := (aP S).length) ⟨by omega, by omega⟩ ⟨by omega, by omega⟩
  unfold f_X10_end f_X11_end
  by_cases hin : 0 ≤ x.toInt ∧ x.toInt ≤ (aP S).length
  · have hx := i32_of hin.1
    have hxn : x.toInt.toNat ≤ (aP S).length := by omega
    have hneg : ¬ x < 0 := fun q => by have := (lt32 (k := 0) (by omega)).mp q; omega
    obtain ⟨t1, g1⟩ := h5.cut hxn
    rw [← hx] at t1 g1
    have hr1 := (hr.hi g1.hi).told
    have r1 : RTape (wI (wI σ 0 7 x) 306 0 0) (aP S) := hr1.2.2.2.2.1
    obtain ⟨u1, q1⟩ := r1.cut hxn
    rw [← hx] at u1 q1
    rw [if_neg hneg, e_gF, h5.1, if_pos ((le32 (by omega)).mpr hin.2), e_pF]
    refine ⟨_, _, _, rfl, ?_, (aX S, aT S, aA S, aI S, (aP S).take x.toInt.toNat, aF S), cut_ok ok _, ((h.tape g1 t1).lo ((LO.row (by omega)).trans q1.lo)).up, hr1.tape q1 u1⟩
    rw [e_pF, e_gF, r1.1, n64 (by omega), show (0 : Int64) = oi 0 from rfl, e, e_bs, decide_eq_true hin, if_pos rfl, e_pF]
  · have r1 : RTape (wI σ 306 0 0) (aP S) := hr0.2.2.2.2.1
    refine ⟨false, σ, wI σ 306 0 0, ?_, ?_, fin_q ok h hr0 f0⟩
    · by_cases hneg : x < 0
      · rw [if_pos hneg]
      · have h0 : ¬ x.toInt < 0 := fun q => hneg ((lt32 (k := 0) (by omega)).mpr q)
        rw [if_neg hneg, e_gF, h5.1, if_neg (fun q => hin ⟨by omega, (le32 (by omega)).mp q⟩)]
    · rw [e_pF, e_gF, r1.1, n64 (by omega), show (0 : Int64) = oi 0 from rfl, e, e_bs, decide_eq_false hin, if_neg (by decide)]
end FDS
end
section
/-! collect: the call -/
section CLL
variable {σ : Mem} {G : GD}
theorem FA.sc {τ : Mem} (h : FA σ τ) : SC σ τ := ⟨fun x hx => h.2.1 x (by omega) (by omega), fun c _ => by rw [h.2.1 40 (by omega) (by omega)], fun c _ => by rw [h.2.1 144 (by omega) (by omega)], fun x _ => by rw [h.1]⟩
theorem FC.sc {τ : Mem} (h : FC σ τ) : SC σ τ := ⟨fun x hx => h.2.1 x (by omega) (by omega) (by omega) (by omega), fun c _ => by rw [h.2.1 40 (by omega) (by omega) (by omega) (by omega)], fun c _ => by rw [h.2.1 144 (by omega) (by omega) (by omega) (by omega)], fun x _ => by rw [h.1]⟩
theorem FX.sr {τ : Mem} (h : FX σ τ) : SR σ τ := ⟨fun x hx => ⟨h.2.1 x (by omega) (by omega), by rw [h.1]⟩, fun x hx => h.2.1 x (by omega) (by omega), fun c hc => h.2.2 c (by omega) (by omega), by rw [h.1], fun m _ => by rw [h.1]⟩
theorem ICls.tell {c : Nat} {S : AS} {τ : Mem} {T : TD} (h : ICls c S σ) (f : OI 16 σ τ) (hT : CTd τ 16 T) : ICls c (aX S, T, aA S, aI S, aP S, aF S) τ := by
  obtain ⟨h1, h2, h3, h4, h5, h6, h7⟩ := h
  have g2 : ∀ x, τ.2 x = σ.2 x := fun x => by rw [f.1]
  exact ⟨h1.eqs (fun x a b => f.2 x (by omega)) (fun x _ _ => g2 x), hT, h3.eqs (f.2 0 (by omega)) (fun x a _ => f.2 x (by omega)) (fun x _ _ => g2 x), ⟨by rw [f.2 0 (by omega)]; exact h4.1, fun y hy => ⟨(h4.2 y hy).1.eqs (fun x a b => f.2 x (by omega)) (fun x _ _ => g2 x), (h4.2 y hy).2.eqs (f.2 32 (by omega))⟩⟩, ⟨by rw [f.2 0 (by omega)]; exact h5.1, fun p x hp => by rw [f.2 34 (by omega)]; exact h5.2 p x hp⟩, ⟨by rw [f.2 144 (by omega)]; exact h6.1, by rw [f.2 144 (by omega)]; exact h6.2⟩, h7.eqs (fun c _ => by rw [f.2 40 (by omega)]) (fun x hx => f.2 x (by omega)) (fun x _ => g2 x)⟩
/-- what the reference's telling a word changes -/
def FTo (σ τ : Mem) : Prop := τ.2 = σ.2 ∧ (∀ x, x ≠ 306 → x ≠ 318 → τ.1 x = σ.1 x) ∧ ∀ c, c ≠ 27 → τ.1 306 c = σ.1 306 c
theorem IRef.tell {S : AS} {τ : Mem} {T : TD} (h : IRef S σ) (f : FTo σ τ) (hT : RTd τ T) : IRef (aX S, T, aA S, aI S, aP S, aF S) τ := by
  obtain ⟨h1, h2, h3, h4, h5, h6, h7, h8⟩ := h
  have g : ∀ x, x ≠ 306 → x ≠ 318 → τ.1 x = σ.1 x := f.2.1
  have k : ∀ c, c ≠ 27 → τ.1 306 c = σ.1 306 c := f.2.2
  exact ⟨h1.eqs (g 307 (by omega) (by omega)), hT, ⟨by rw [k 3 (by omega)]; exact h3.1, fun j X hj => (h3.2 j X hj).eqs (g 308 (by omega) (by omega))⟩, ⟨by rw [k 37 (by omega)]; exact h4.1, fun y hy => by
    rw [g 323 (by omega) (by omega)]
    exact ⟨(h4.2 y hy).1.eqs (g 323 (by omega) (by omega)), (h4.2 y hy).2⟩⟩, ⟨by rw [k 18 (by omega)]; exact h5.1, fun p x hp => by rw [g 317 (by omega) (by omega)]; exact h5.2 p x hp⟩, ⟨by rw [k 19 (by omega)]; exact h6.1, by rw [k 20 (by omega)]; exact h6.2⟩, h7.eqs (k 9 (by omega)) (k 10 (by omega)) (g 311 (by omega) (by omega)) (by rw [f.1]), fun m hm => by rw [f.1]; exact h8 m hm⟩
theorem FTo.lo {τ : Mem} (f : FTo σ τ) : LO σ τ := fun x hx => ⟨f.2.1 x (by omega) (by omega), by rw [f.1]⟩
def vlt (n b : Nat) : Prop := 97 ≤ b ∧ b < 97 + n
def wdof (w : List Nat) : List Nat := w.map (fun b => b - 97)
theorem i_lt97 {b : Nat} (h : b < 97) : i32 b - 97 < 0 := by
  have h1 : (List.range 97).all (fun k => decide (i32 k - 97 < 0)) = true := by decide +kernel
  exact of_decide_eq_true (List.all_eq_true.mp h1 b (List.mem_range.mpr h))
theorem c_letters {w : List Nat} (hn : gn G ≤ 6) (h0 : σ.1 2 0 = i32 (gn G)) (hl : w.length ≤ 24) (hb : ∀ x : Nat, x ∈ w → x < 256) (hw : ∀ (p x : Nat), w[p]? = some x → σ.1 34 p = i32 x) (hc : CW σ []) : ∃ r, loopO (fun (z11 : (Mem × Int32)) => l_X10_collect_27 (i32 w.length) z11.1 z11.2) (σ, 0) = some r ∧ ∃ τ, FA σ τ ∧ (((∀ x, x ∈ w → vlt (gn G) x) ∧ r = Sum.inl τ ∧ CW τ (wdof w)) ∨ ((¬ ∀ x, x ∈ w → vlt (gn G) x) ∧ r = Sum.inr (-1, τ))) := by
  refine loop_inv (body := fun (z11 : (Mem × Int32)) => l_X10_collect_27 (i32 w.length) z11.1 z11.2) (fun n z => ∃ k τ, k ≤ w.length ∧ n = w.length - k ∧ z = (τ, i32 k) ∧ FA σ τ ∧ CW τ (wdof (w.take k)) ∧ ∀ x, x ∈ w.take k → vlt (gn G) x) _ ?_ w.length (σ, 0) ⟨0, σ, by omega, rfl, rfl, FA.refl, by rw [List.take_zero]; exact hc, fun x hx => by rw [List.take_zero] at hx; cases hx⟩
  rintro n z ⟨k, τ, hk, rfl, rfl, f, c, hv⟩
  by_cases hkn : k = w.length
  · right
    subst hkn
    rw [List.take_length] at c hv
    refine ⟨_, ?_, τ, f, Or.inl ⟨hv, rfl, c⟩⟩
    show l_X10_collect_27 (i32 w.length) τ (i32 w.length) = _
    unfold l_X10_collect_27
    rw [if_pos (i_le (Nat.le_refl _) (by omega))]
  · have hk1 : k < w.length := by omega
    have hgt : w[k]? = some w[k] := List.getElem?_eq_getElem hk1
    have hmem : w[k] ∈ w := List.getElem_mem hk1
    have hb1 := hb _ hmem
    have h34 : τ.1 34 k = i32 w[k] := by rw [f.2.1 34 (by omega) (by omega)]; exact hw k _ hgt
    have h20 : τ.1 2 0 = i32 (gn G) := by rw [f.2.1 2 (by omega) (by omega)]; exact h0
    by_cases hlo : w[k] < 97
    · right
      refine ⟨_, ?_, τ, f, Or.inr ⟨fun q => by have := (q _ hmem).1; omega, rfl⟩⟩
      show l_X10_collect_27 (i32 w.length) τ (i32 k) = _
      unfold l_X10_collect_27
      rw [if_neg (i_nle hk1 (by omega)), e_gI ln_34 (by omega) (by omega), h34, e_bd, if_pos (i_lt97 hlo)]
    · have e97 : i32 w[k] - 97 = i32 (w[k] - 97) := i32_sub (a := w[k]) (b := 97) (by omega)
      have n0 : ¬ i32 (w[k] - 97) < 0 := i_nlt (b := 0) (by omega) (by omega)
      by_cases hhi : w[k] < 97 + gn G
      · left
        obtain ⟨υ, e, f2, c2⟩ := c_add (σ := τ) (x := w[k] - 97) c (by unfold wdof; rw [List.length_map, List.length_take]; omega) (by omega)
        have ht : w.take (k + 1) = w.take k ++ [w[k]] := by rw [List.take_succ, hgt]; rfl
        refine ⟨(υ, i32 (k + 1)), w.length - (k + 1), by omega, ?_, k + 1, υ, by omega, rfl, rfl, f.trans f2, ?_, ?_⟩
        · show l_X10_collect_27 (i32 w.length) τ (i32 k) = _
          unfold l_X10_collect_27
          rw [if_neg (i_nle hk1 (by omega)), e_gI ln_34 (by omega) (by omega), h34, e_bd, e97, if_neg n0, e_gF, h20, if_pos (i_lt (by omega) (by omega)), e, e_bs, i32_1, i32_add]
        · rw [ht]
          unfold wdof
          rw [List.map_append]
          exact c2
        · intro x hx
          rw [ht, List.mem_append, List.mem_singleton] at hx
          rcases hx with hx | hx
          · exact hv x hx
          · rw [hx]; exact ⟨by omega, hhi⟩
      · right
        refine ⟨_, ?_, τ, f, Or.inr ⟨fun q => by have := (q _ hmem).2; omega, rfl⟩⟩
        show l_X10_collect_27 (i32 w.length) τ (i32 k) = _
        unfold l_X10_collect_27
        rw [if_neg (i_nle hk1 (by omega)), e_gI ln_34 (by omega) (by omega), h34, e_bd, e97, if_neg n0, e_gF, h20, if_neg (i_nlt (by omega) (by omega))]
theorem r_looks {w : List Nat} (hG : GOK G) (hM : MG σ G) (hl : w.length ≤ 24) (hb : ∀ x : Nat, x ∈ w → x < 256) (hw : ∀ (p x : Nat), w[p]? = some x → σ.1 317 p = i32 x) : ∃ r, loopO (fun (z22 : Int32) => l_X11_collect_25 (i32 w.length) σ z22) 0 = some r ∧ (((∀ x, x ∈ w → vlt (gn G) x) ∧ r = Sum.inl ()) ∨ ((¬ ∀ x, x ∈ w → vlt (gn G) x) ∧ r = Sum.inr (-1, σ))) := by
  have hn := hG.2.1
  have hn1 := hG.1
  refine loop_inv (body := fun (z22 : Int32) => l_X11_collect_25 (i32 w.length) σ z22) (fun n z => ∃ k, k ≤ w.length ∧ n = w.length - k ∧ z = i32 k ∧ ∀ x, x ∈ w.take k → vlt (gn G) x) _ ?_ w.length 0 ⟨0, by omega, rfl, rfl, fun x hx => by rw [List.take_zero] at hx; cases hx⟩
  rintro n z ⟨k, hk, rfl, rfl, hv⟩
  by_cases hkn : k = w.length
  · right
    subst hkn
    rw [List.take_length] at hv
    refine ⟨_, ?_, Or.inl ⟨hv, rfl⟩⟩
    unfold l_X11_collect_25
    rw [if_pos (i_le (Nat.le_refl _) (by omega))]
  · have hk1 : k < w.length := by omega
    have hgt : w[k]? = some w[k] := List.getElem?_eq_getElem hk1
    have hmem : w[k] ∈ w := List.getElem_mem hk1
    have hb1 := hb _ hmem
    have e := r_in (σ := σ) (x := i32 w[k]) (l := 97) (u := 97 + gn G - 1) ⟨by omega, by omega⟩ ⟨by omega, by omega⟩
    rw [i32_toInt (by omega)] at e
    have eu : (97 + i32 (gn G)).toInt64 - 1 = oi (97 + gn G - 1) := by
      rw [show (97 : Int32) = i32 97 from rfl, i32_add, n64 (by omega), show (1 : Int64) = oi 1 from rfl, oi_sub, show ((97 + gn G : Nat) : Int) = 97 + (gn G : Int) from by omega]
    have hbody : l_X11_collect_25 (i32 w.length) σ (i32 k) = if decide ((97 : Int) ≤ (w[k] : Int) ∧ (w[k] : Int) ≤ 97 + gn G - 1) = true then some (Sum.inl (i32 k + 1)) else some (Sum.inr (Sum.inr (-1, σ))) := by
      unfold l_X11_collect_25
      rw [if_neg (i_nle hk1 (by omega)), e_gI ln_317 (by omega) (by omega), hw k _ hgt, e_n hM, e_bs, eu, show (97 : Int64) = oi 97 from rfl, e, e_bs]
    by_cases hval : vlt (gn G) w[k]
    · left
      have ht : w.take (k + 1) = w.take k ++ [w[k]] := by rw [List.take_succ, hgt]; rfl
      have hv1 := hval.1
      have hv2 := hval.2
      refine ⟨i32 (k + 1), w.length - (k + 1), by omega, ?_, k + 1, by omega, rfl, rfl, ?_⟩
      · rw [hbody, decide_eq_true (by omega), if_pos rfl, i32_1, i32_add]
      · intro x hx
        rw [ht, List.mem_append, List.mem_singleton] at hx
        rcases hx with hx | hx
        · exact hv x hx
        · rw [hx]; exact hval
    · right
      refine ⟨_, ?_, Or.inr ⟨fun q => hval (q _ hmem), rfl⟩⟩
      rw [hbody, decide_eq_false (fun q => hval ⟨by omega, by omega⟩), if_neg (by decide)]
theorem r_writesAll {w : List Nat} (hl : w.length ≤ 24) (hv : ∀ x, x ∈ w → 97 ≤ x) (hb : ∀ x : Nat, x ∈ w → x < 256) (hw : ∀ (p x : Nat), w[p]? = some x → σ.1 317 p = i32 x) (hR : RW σ []) (h7 : σ.1 306 7 = 0) : ∃ τ, loopO (fun (z19 : (Mem × Int32)) => l_X11_collect_77 (i32 w.length) z19.1 z19.2) (σ, 0) = some τ ∧ FX σ τ ∧ RW τ (wdof w) ∧ τ.1 306 7 = 0 := by
  refine loop_inv (body := fun (z19 : (Mem × Int32)) => l_X11_collect_77 (i32 w.length) z19.1 z19.2) (fun n z => ∃ k τ, k ≤ w.length ∧ n = w.length - k ∧ z = (τ, i32 k) ∧ FX σ τ ∧ RW τ (wdof (w.take k)) ∧ τ.1 306 7 = 0) _ ?_ w.length (σ, 0) ⟨0, σ, by omega, rfl, rfl, FX.refl, by rw [List.take_zero]; exact hR, h7⟩
  rintro n z ⟨k, τ, hk, rfl, rfl, f, c, k7⟩
  by_cases hkn : k = w.length
  · right
    subst hkn
    rw [List.take_length] at c
    refine ⟨τ, ?_, f, c, k7⟩
    show l_X11_collect_77 (i32 w.length) τ (i32 w.length) = _
    unfold l_X11_collect_77
    rw [if_pos (i_le (Nat.le_refl _) (by omega))]
  · left
    have hk1 : k < w.length := by omega
    have hgt : w[k]? = some w[k] := List.getElem?_eq_getElem hk1
    have hmem : w[k] ∈ w := List.getElem_mem hk1
    have hb1 := hb _ hmem
    have hv1 := hv _ hmem
    have e97 : i32 w[k] - 97 = i32 (w[k] - 97) := i32_sub (a := w[k]) (b := 97) (by omega)
    have h34 : τ.1 317 k = i32 w[k] := by rw [f.2.1 317 (by omega) (by omega)]; exact hw k _ hgt
    obtain ⟨υ, e, f2, c2, k2⟩ := r_writes (σ := τ) (x := w[k] - 97) c (by unfold wdof; rw [List.length_map, List.length_take]; omega)
    have ht : w.take (k + 1) = w.take k ++ [w[k]] := by rw [List.take_succ, hgt]; rfl
    refine ⟨(υ, i32 (k + 1)), w.length - (k + 1), by omega, ?_, k + 1, υ, by omega, rfl, rfl, f.trans f2, ?_, by rw [k2, k7]⟩
    · show l_X11_collect_77 (i32 w.length) τ (i32 k) = _
      unfold l_X11_collect_77
      rw [if_neg (i_nle hk1 (by omega)), e_gI ln_317 (by omega) (by omega), h34, e97, e, e_bs, i32_1, i32_add]
    · rw [ht]
      unfold wdof
      rw [List.map_append]
      exact c2
theorem r_tells {S : List Nat} (hG : GOK G) (hM : MG σ G) (hR : RW σ S) (hl : S.length ≤ 16000) (hS : ∀ x, x ∈ S → x < gn G) : ∃ τ, loopO (fun (z14 : (Mem × Int32)) => l_X11_collect_121 z14.1 z14.2) (σ, 0) = some τ ∧ OI 318 σ τ ∧ ∀ i, i < gn G → τ.1 318 i = i32 (S.count i) := by
  have hn := hG.2.1
  refine loop_inv (body := fun (z14 : (Mem × Int32)) => l_X11_collect_121 z14.1 z14.2) (fun n z => ∃ k τ, k ≤ gn G ∧ n = gn G - k ∧ z = (τ, i32 k) ∧ OI 318 σ τ ∧ ∀ i, i < k → τ.1 318 i = i32 (S.count i)) _ ?_ (gn G) (σ, 0) ⟨0, σ, by omega, rfl, rfl, ⟨rfl, fun _ _ => rfl⟩, fun i hi => absurd hi (Nat.not_lt_zero _)⟩
  rintro n z ⟨k, τ, hk, rfl, rfl, o, v⟩
  have hMt : MG τ G := by unfold MG; rw [o.2 307 (by omega)]; exact hM
  have hRt : RW τ S := by unfold RW; rw [o.2 306 (by omega), o.2 309 (by omega)]; exact hR
  by_cases hkn : k = gn G
  · right
    subst hkn
    refine ⟨τ, ?_, o, v⟩
    show l_X11_collect_121 τ (i32 (gn G)) = _
    unfold l_X11_collect_121
    rw [e_n hMt, e_bs, if_pos (i_le (Nat.le_refl _) (by omega))]
  · left
    refine ⟨(wI τ 318 k (i32 (S.count k)), i32 (k + 1)), gn G - (k + 1), by omega, ?_, k + 1, _, by omega, rfl, rfl, ⟨o.1, fun x hx => ?_⟩, fun i hi => ?_⟩
    · show l_X11_collect_121 τ (i32 k) = _
      unfold l_X11_collect_121
      rw [e_n hMt, e_bs, if_neg (i_nle (by omega) (by omega)), r_letters hRt hl (by omega) (fun y hy => by have := hS y hy; omega), e_bs, e_pI ln_318 (by omega) (by omega), i32_1, i32_add]
    · funext y; rw [wI_1, if_neg (fun q => hx q.1), o.2 x hx]
    · rw [wI_1]
      by_cases h1 : i = k
      · rw [if_pos ⟨rfl, h1⟩, h1]
      · rw [if_neg (fun q => h1 q.2)]; exact v i (by omega)
theorem RA2 : RA 2 := ⟨⟨by decide +kernel, ln_4⟩, by omega⟩
theorem e_cI26 {α : Type} {f : Mem → Option α} : cI σ 39 0 16 2 6 f = f (cpI σ 39 16 0 2 6) := by
  unfold cI
  have h6 : (6 : Int32).toNatClampNeg = 6 := rfl
  have h2 : (2 : Int32).toNatClampNeg = 2 := rfl
  have h0 : (0 : Int32).toNatClampNeg = 0 := rfl
  rw [h6, h0, h2, ln_39, ln_16, if_pos ⟨⟨by decide, by decide, by decide⟩, by omega, by omega⟩]
theorem cpI26 : OI 16 σ (cpI σ 39 16 0 2 6) ∧ (∀ i, i < 6 → (cpI σ 39 16 0 2 6).1 16 (2 + i) = σ.1 39 i) ∧ ∀ i, i < 2 → (cpI σ 39 16 0 2 6).1 16 i = σ.1 16 i := by
  refine ⟨⟨rfl, fun x hx => ?_⟩, fun i hi => ?_, fun i hi => ?_⟩
  · funext y
    show (if x = 16 then va_cpy (σ.1 39) (σ.1 16) 0 2 6 y else σ.1 x y) = _
    rw [if_neg hx]
  · show (if 16 = 16 then va_cpy (σ.1 39) (σ.1 16) 0 2 6 (2 + i) else σ.1 16 (2 + i)) = _
    rw [if_pos rfl]
    unfold va_cpy
    rw [if_pos ⟨by omega, by omega⟩, show 0 + (2 + i - 2) = i by omega]
  · show (if 16 = 16 then va_cpy (σ.1 39) (σ.1 16) 0 2 6 i else σ.1 16 i) = _
    rw [if_pos rfl]
    unfold va_cpy
    rw [if_neg (by omega)]
theorem ok_15 : Ok_15 II := by
  intro c σ hc ⟨S, ok, h, hr⟩
  have hG : GOK (aG S) := ok.1.1
  have hn : gn (aG S) ≤ 6 := hG.2.1
  have hL : (aP S).length ≤ 200 := ok.2.2.2.2.1
  have hB : ∀ x, x ∈ aP S → x < 256 := ok.2.2.2.2.2
  have h5 : CTape σ (aP S) := h.2.2.2.2.1
  -- both empty their tapes
  obtain ⟨t1, g1⟩ := CTape.cut (n := 0) h5 (Nat.zero_le _)
  have hc1 := h.tape g1 t1
  have k0 : OKS (aX S, aT S, aA S, aI S, (aP S).take 0, aF S) := cut_ok ok 0
  have w1 : ∀ (p x : Nat), (aP S)[p]? = some x → (wI σ 0 7 (i32 0)).1 34 p = i32 x := fun p x hp => by rw [wI_1, if_neg (by omega)]; exact h5.2 p x hp
  have refl : ∀ σ2, HI σ σ2 → ∃ σ3, LO σ2 σ3 ∧ IRef (aX S, aT S, aA S, aI S, (aP S).take 0, aF S) σ3 ∧ (∀ (p x : Nat), (aP S)[p]? = some x → σ3.1 317 p = i32 x) ∧ f_X11_collect σ2 = if i32 (aP S).length ≤ 24 then ((loopO (fun (z22 : Int32) => l_X11_collect_25 (i32 (aP S).length) σ3 z22) 0 : Option (Unit ⊕ (Int32 × Mem))).bind (Sum.elim (fun (z3 : Unit) => j_X11_collect_65 (i32 (aP S).length) σ3) some)) else (some ((-1), σ3)) := by
    intro σ2 hi
    have hr1 := (hr.hi hi).told
    have r1 : RTape (wI σ2 306 0 0) (aP S) := hr1.2.2.2.2.1
    obtain ⟨u1, q1⟩ := RTape.cut (n := 0) r1 (Nat.zero_le _)
    refine ⟨_, (LO.row (by omega)).trans q1.lo, hr1.tape q1 u1, fun p x hp => by rw [wI_1, if_neg (by omega)]; exact r1.2 p x hp, ?_⟩
    unfold f_X11_collect
    rw [e_pF, e_gF, r1.1, e_pF]
    rfl
  unfold f_X10_collect
  rw [e_gF, h5.1, e_pF]
  have e0 : wI σ 0 7 0 = wI σ 0 7 (i32 0) := rfl
  rw [e0]
  by_cases h24 : (aP S).length ≤ 24
  · have c24 : i32 (aP S).length ≤ 24 := (i_le h24 (by omega) : i32 (aP S).length ≤ i32 24)
    rw [if_pos c24]
    obtain ⟨σ2, e2, f2, w2⟩ := c_begin (σ := wI σ 0 7 (i32 0))
    have hc2 := hc1.sc f2.sc
    rw [e2, e_bs]
    obtain ⟨r, e3, σ3, f3, hcase⟩ := c_letters (σ := σ2) (w := aP S) hn hc2.1.1.1 h24 hB (fun p x hp => by rw [f2.2.1 34 (by omega) (by omega)]; exact w1 p x hp) w2
    have hc3 := hc2.sc f3.sc
    have hi3 : HI σ σ3 := g1.hi.trans (f2.sc.hi.trans f3.sc.hi)
    rw [e3, e_bs]
    rcases hcase with ⟨hv, rfl, hw3⟩ | ⟨hv, rfl⟩
    · show ∃ r σ1 σ4, j_X10_collect_76 σ3 = some (r, σ1) ∧ _
      have hwl : (wdof (aP S)).length ≤ 24 := by unfold wdof; rw [List.length_map]; exact h24
      have hwg : ∀ x, x ∈ wdof (aP S) → x < gn (aG S) := fun x hx => by
        obtain ⟨y, hy, rfl⟩ := List.mem_map.mp hx
        have := hv y hy
        have h1 := this.1
        have h2 := this.2
        omega
      obtain ⟨σ4, f4, hrun⟩ := c_run (σ := σ3) (a := 2) hG RA2 hc3.1.1 (L := 1000) (by omega) (w := wdof (aP S)) (by omega) hwg hw3.1 (fun p hp => hw3.2 p _ (List.getElem?_eq_getElem hp))
      have hc4 := hc3.sc f4.sc
      have hi4 : HI σ σ4 := hi3.trans f4.sc.hi
      have rrun : ∀ τ1, IRef (aX S, aT S, aA S, aI S, (aP S).take 0, aF S) τ1 → (∀ (p x : Nat), (aP S)[p]? = some x → τ1.1 317 p = i32 x) → ∃ τ4, True ∧ LO τ1 τ4 ∧ ((∃ W e, col (aG S) 1000 [] (wdof (aP S)) 0 = some (W, e) ∧ IRef (aX S, ((aT S).1, gn (aG S), fun i => i32 (W.count i)), aA S, aI S, (aP S).take 0, aF S) τ4 ∧ j_X11_collect_65 (i32 (aP S).length) τ1 = some (i32 e, τ4)) ∨ (col (aG S) 1000 [] (wdof (aP S)) 0 = none ∧ IRef (aX S, aT S, aA S, aI S, (aP S).take 0, aF S) τ4 ∧ j_X11_collect_65 (i32 (aP S).length) τ1 = some (-2, τ4))) := by
        intro τ1 hr1 v1
        have fx0 : FX τ1 (wI (wI τ1 306 6 0) 306 7 0) := ⟨rfl, fun x h1 _ => by funext y; rw [wI_1, if_neg (fun q => h1 q.1), wI_1, if_neg (fun q => h1 q.1)], fun c h1 h2 => by rw [wI_1, if_neg (fun q => h2 q.2), wI_1, if_neg (fun q => h1 q.2)]⟩
        have rw0 : RW (wI (wI τ1 306 6 0) 306 7 0) [] := ⟨by rw [wI_1, if_neg (by omega), wI_1, if_pos ⟨rfl, rfl⟩]; rfl, fun p x hp => by simp at hp⟩
        have s70 : (wI (wI τ1 306 6 0) 306 7 0).1 306 7 = 0 := by rw [wI_1, if_pos ⟨rfl, rfl⟩]
        generalize hgen : wI (wI τ1 306 6 0) 306 7 0 = τa at fx0 rw0 s70
        obtain ⟨τ2, e7, fx1, rw1, s71⟩ := r_writesAll (σ := τa) (w := aP S) h24 (fun x hx => (hv x hx).1) hB (fun p x hp => by rw [fx0.2.1 317 (by omega) (by omega)]; exact v1 p x hp) rw0 s70
        have fxx := fx0.trans fx1
        have hr2 := hr1.sr fxx.sr
        obtain ⟨b, τ3, e8, fx2, hcase⟩ := r_collects (σ := τ2) hr2.1.mg hG (l := wdof (aP S)) (ex0 := 0) (by omega) hwg rw1 s71 (by omega)
        have hr3 := hr2.sr fx2.sr
        have l3 : LO τ1 τ3 := fxx.sr.lo.trans fx2.sr.lo
        have estep : j_X11_collect_65 (i32 (aP S).length) τ1 = j_X11_collect_101 τ2 := by
          unfold j_X11_collect_65
          rw [e_pF, e_pF, hgen, e7, e_bs]
        rcases hcase with ⟨W, e, hcol, rfl, rwS, e71, hle⟩ | ⟨hcol, rfl⟩
        · have hval := run_val hG _ [] (wdof (aP S)) 0 W e List.Pairwise.nil (fun x hx => by cases hx) hwg hcol
          have hlen := run_len hG _ [] (wdof (aP S)) 0 W e (by omega) hcol
          have hlen2 : W.length ≤ 16000 := by
            have := hlen.2.2
            have h0 : ([] : List Nat).length = 0 := rfl
            omega
          have o27 : MG (wI τ3 306 27 (i32 (gn (aG S)))) (aG S) := by
            unfold MG
            have : (wI τ3 306 27 (i32 (gn (aG S)))).1 307 = τ3.1 307 := by funext y; rw [wI_1, if_neg (by omega)]
            rw [this]
            exact hr3.1.mg
          have rwS2 : RW (wI τ3 306 27 (i32 (gn (aG S)))) W.reverse := ⟨by rw [wI_1, if_neg (by omega)]; exact rwS.1, fun p x hp => by rw [wI_1, if_neg (by omega)]; exact rwS.2 p x hp⟩
          obtain ⟨τ4, e9, o9, v9⟩ := r_tells (σ := wI τ3 306 27 (i32 (gn (aG S)))) hG o27 rwS2 (by rw [List.length_reverse]; exact hlen2) (fun x hx => hval.2.2 x (List.mem_reverse.mp hx))
          have fto : FTo τ3 τ4 := ⟨by rw [o9.1]; rfl, fun x h1 h2 => by rw [o9.2 x h2]; funext y; rw [wI_1, if_neg (fun q => h1 q.1)], fun c hc => by rw [o9.2 306 (by omega), wI_1, if_neg (fun q => hc q.2)]⟩
          refine ⟨τ4, trivial, l3.trans fto.lo, Or.inl ⟨W, e, hcol, hr3.tell fto ⟨?_, ?_, fun i hi => ?_⟩, ?_⟩⟩
          · rw [fto.2.2 4 (by omega)]; exact hr3.2.1.1
          · rw [o9.2 306 (by omega), wI_1, if_pos ⟨rfl, rfl⟩]
          · rw [v9 i hi, List.count_reverse]
          · rw [estep]
            unfold j_X11_collect_101
            rw [e8, e_bq, if_pos rfl, e_n hr3.1.mg, e_bs, e_pF, e9, e_bs]
            unfold j_X11_collect_146
            rw [e_gF, o9.2 306 (by omega), wI_1, if_neg (by omega), e71]
        · refine ⟨τ3, trivial, l3, Or.inr ⟨hcol, hr3, ?_⟩⟩
          rw [estep]
          unfold j_X11_collect_101
          rw [e8, e_bq, if_neg (by decide)]
      unfold j_X10_collect_76
      rcases hrun with ⟨W, e, hcol, hle, e4, hWl, hW⟩ | ⟨hcol, e4⟩
      · have hval := col_cnt hG hwg hcol
        rw [show (1000 : Int32) = i32 1000 from rfl, e4, e_bq, if_neg (show ¬ i32 e = -1 from fun q => by
          have := congrArg Int32.toInt q
          rw [i32_toInt (by omega)] at this
          have h9 : (-1 : Int32).toInt = -1 := by decide
          rw [h9] at this
          omega), e_gF, hc4.1.1.1, i32_1, e_pI ln_16 (k := 1) (by omega) (by omega), e_cI26]
        have hcp := cpI26 (σ := wI σ4 16 1 (i32 (gn (aG S))))
        have o16 : OI 16 σ4 (cpI (wI σ4 16 1 (i32 (gn (aG S)))) 39 16 0 2 6) := ⟨hcp.1.1, fun x hx => by rw [hcp.1.2 x hx]; funext y; rw [wI_1, if_neg (fun q => hx q.1)]⟩
        have hT : CTd (cpI (wI σ4 16 1 (i32 (gn (aG S)))) 39 16 0 2 6) 16 ((aT S).1, gn (aG S), fun i => i32 (W.count i)) := by
          refine ⟨?_, ?_, fun i hi => ?_⟩
          · rw [hcp.2.2 0 (by omega), wI_1, if_neg (by omega)]
            exact hc4.2.1.1
          · rw [hcp.2.2 1 (by omega), wI_1, if_pos ⟨rfl, rfl⟩]
          · have hi' : i < gn (aG S) := hi
            rw [hcp.2.1 i (by omega), wI_1, if_neg (by omega)]
            exact hW i (by omega)
        have hc5 := hc4.tell o16 hT
        have hi5 : HI σ (cpI (wI σ4 16 1 (i32 (gn (aG S)))) 39 16 0 2 6) := hi4.trans (fun x hx => ⟨o16.2 x (by omega), by rw [o16.1]⟩)
        obtain ⟨τ1, l1, hr1, v1, er⟩ := refl _ hi5
        obtain ⟨r2, e6, ⟨_, rfl⟩ | ⟨q, _⟩⟩ := r_looks hG hr1.1.mg h24 hB v1
        rotate_left
        · exact absurd hv q
        obtain ⟨τ4, e9, l9, hr9⟩ := rrun _ hr1 v1
        rcases hr9 with ⟨W', e', hcol', hr10, e11⟩ | ⟨hcol', _⟩
        rotate_left
        · rw [hcol] at hcol'; cases hcol'
        have hWW : W' = W ∧ e' = e := by
          rw [hcol] at hcol'
          have := Option.some.inj hcol'
          exact ⟨(congrArg Prod.fst this).symm, (congrArg Prod.snd this).symm⟩
        obtain ⟨rfl, rfl⟩ := hWW
        refine ⟨i32 e', _, τ4, rfl, ?_, _, ?_, (hc5.lo (l1.trans l9)).up, hr10⟩
        · rw [er, if_pos c24, e6, e_bs]
          exact e11
        · exact ⟨ok.1, hn, ok.2.2.1, ok.2.2.2.1, k0.2.2.2.2⟩
      · rw [show (1000 : Int32) = i32 1000 from rfl, e4, e_bq, if_pos rfl]
        obtain ⟨τ1, l1, hr1, v1, er⟩ := refl _ hi4
        obtain ⟨r2, e6, ⟨_, rfl⟩ | ⟨q, _⟩⟩ := r_looks hG hr1.1.mg h24 hB v1
        rotate_left
        · exact absurd hv q
        obtain ⟨τ4, e9, l9, hr9⟩ := rrun _ hr1 v1
        rcases hr9 with ⟨W', e', hcol', _, _⟩ | ⟨_, hr10, e11⟩
        · rw [hcol] at hcol'; cases hcol'
        refine ⟨-2, σ4, τ4, rfl, ?_, fin_q k0 hc4 hr10 (l1.trans l9)⟩
        rw [er, if_pos c24, e6, e_bs]
        exact e11
    · obtain ⟨τ1, l1, hr1, v1, er⟩ := refl σ3 hi3
      obtain ⟨r2, e6, ⟨q, _⟩ | ⟨_, rfl⟩⟩ := r_looks hG hr1.1.mg h24 hB v1
      · exact absurd q hv
      · refine ⟨-1, σ3, τ1, rfl, ?_, fin_q k0 hc3 hr1 l1⟩
        rw [er, if_pos c24, e6, e_bs]
        rfl
  · have c24 : ¬ i32 (aP S).length ≤ 24 := (i_nle (by omega) (by omega) : ¬ i32 (aP S).length ≤ i32 24)
    rw [if_neg c24]
    obtain ⟨τ1, l1, hr1, v1, er⟩ := refl _ g1.hi
    refine ⟨-1, _, τ1, rfl, ?_, fin_q k0 hc1 hr1 l1⟩
    rw [er, if_neg c24]
end CLL
end
section
/-! central letters; generator, look: the calls -/
section CEN
variable {σ : Mem} {G : GD}
theorem areS_iff {A B : Nat → Int} : areS G A B = true ↔ ∀ k, k < gn G → oi (A k) = oi (B k) := by
  unfold areS
  rw [decide_eq_true_eq]
def Ctl (G : GD) (v : Nat) : Prop := ∀ i, i < gn G → ∀ k, k < gn G → gt G (max i v) (min i v) k = 0
theorem mul_up (hG : GOK G) {j i : Nat} (hi : i < j) (hj : j < gn G) (m : Nat) : mul G (EE i) (EE j) m = EE i m + EE j m := by
  rw [mul_EE hG hj, TL_top hG (v := EE i) hj (fun q hq => by unfold EE; rw [if_neg (by omega)])]
  rfl
theorem oi_t {X t : Int} (hX : 0 ≤ X ∧ X ≤ 2) (ht : 0 ≤ t ∧ t ≤ 3) : oi (X + t) = oi X ↔ t = 0 := by
  constructor
  · intro h
    have := congrArg Int64.toInt h
    rw [oi_toInt (by omega) (by omega), oi_toInt (by omega) (by omega)] at this
    omega
  · intro h
    rw [h, Int.add_zero]
theorem EE_01 (i m : Nat) : 0 ≤ EE i m ∧ EE i m ≤ 1 := by
  unfold EE
  split <;> omega
theorem tI_03 (hG : GOK G) (j i m : Nat) : 0 ≤ tI G j i m ∧ tI G j i m ≤ 3 := by
  have := hG.2.2.2.2.2.1 j i m
  unfold tI
  omega
theorem areS_comm {A B : Nat → Int} : areS G A B = true ↔ areS G B A = true := by
  rw [areS_iff, areS_iff]
  exact ⟨fun h k hk => (h k hk).symm, fun h k hk => (h k hk).symm⟩
theorem swap_iff (hG : GOK G) {j i : Nat} (hi : i < j) (hj : j < gn G) : areS G (mul G (EE j) (EE i)) (mul G (EE i) (EE j)) = true ↔ ∀ k, k < gn G → gt G j i k = 0 := by
  rw [areS_iff]
  have key : ∀ k, oi (mul G (EE j) (EE i) k) = oi (mul G (EE i) (EE j) k) ↔ gt G j i k = 0 := by
    intro k
    rw [EE_mul hG hi hj, mul_up hG hi hj]
    have h1 := EE_01 i k
    have h2 := EE_01 j k
    rw [oi_t (X := EE i k + EE j k) (t := tI G j i k) ⟨by omega, by omega⟩ (tI_03 hG j i k)]
    unfold tI
    omega
  exact ⟨fun h k hk => (key k).mp (h k hk), fun h k hk => (key k).mpr (h k hk)⟩
theorem ctl_iff (hG : GOK G) {v : Nat} (hv : v < gn G) : (∀ i, i < gn G → areS G (mul G (EE v) (EE i)) (mul G (EE i) (EE v)) = true) ↔ Ctl G v := by
  have key : ∀ i, i < gn G → (areS G (mul G (EE v) (EE i)) (mul G (EE i) (EE v)) = true ↔ ∀ k, k < gn G → gt G (max i v) (min i v) k = 0) := by
    intro i hi
    rcases Nat.lt_trichotomy i v with h | h | h
    · rw [swap_iff hG h hv, Nat.max_eq_right (by omega), Nat.min_eq_left (by omega)]
    · subst h
      rw [Nat.max_self, Nat.min_self]
      refine ⟨fun _ k _ => ?_, fun _ => areS_eq (fun k _ => rfl)⟩
      exact Classical.byContradiction (fun q => by have := (hG.2.2.2.2.2.2 i i k q).1; omega)
    · rw [areS_comm, swap_iff hG h hi, Nat.max_eq_left (by omega), Nat.min_eq_right (by omega)]
  exact ⟨fun h i hi => (key i hi).mp (h i hi), fun h i hi => (key i hi).mpr (h i hi)⟩
theorem e_maxN {a b : Nat} (ha : a < 2 ^ 31) (hb : b < 2 ^ 31) : f_J9_max_7cf53 σ (i32 a) (i32 b) = some (i32 (max a b)) := by
  rw [e_max]
  unfold mx32
  by_cases h : a < b
  · rw [if_pos (i_lt h hb), Nat.max_eq_right (by omega)]
  · rw [if_neg (i_nlt (by omega) ha), Nat.max_eq_left (by omega)]
/-- the class's test of a letter -/
theorem c_isCentral (hG : GOK G) (h : CG σ 2 G) {v : Nat} (hv : v < gn G) : ∃ b, f_X6_isCentral σ 2 (i32 v) = some b ∧ (b = true ↔ Ctl G v) := by
  have hn := hG.2.1
  unfold f_X6_isCentral
  refine loop_inv (body := fun (z1 : Int32) => l_X6_isCentral_2 σ 2 (i32 v) z1) (fun n z => ∃ i, i ≤ gn G ∧ n = gn G - i ∧ z = i32 i ∧ ∀ p, p < i → ∀ k, k < gn G → gt G (max p v) (min p v) k = 0) _ ?_ (gn G) 0 ⟨0, by omega, rfl, rfl, fun p hp => absurd hp (Nat.not_lt_zero _)⟩
  rintro n z ⟨i, hi, rfl, rfl, hd⟩
  by_cases hin : i = gn G
  · right
    subst hin
    refine ⟨true, ?_, fun _ => hd, fun _ => rfl⟩
    unfold l_X6_isCentral_2
    rw [e_gF, h.1, if_pos (i_le (Nat.le_refl _) (by omega))]
  · have inner : ∃ r, loopO (fun (z3 : Int32) => l_X6_isCentral_12 σ 2 (i32 v) (i32 i) z3) 0 = some r ∧ ((r = Sum.inl () ∧ ∀ k, k < gn G → gt G (max i v) (min i v) k = 0) ∨ (r = Sum.inr (Sum.inr false) ∧ ¬ ∀ k, k < gn G → gt G (max i v) (min i v) k = 0)) := by
      refine loop_inv (body := fun (z3 : Int32) => l_X6_isCentral_12 σ 2 (i32 v) (i32 i) z3) (fun n z => ∃ k, k ≤ gn G ∧ n = gn G - k ∧ z = i32 k ∧ ∀ p, p < k → gt G (max i v) (min i v) p = 0) _ ?_ (gn G) 0 ⟨0, by omega, rfl, rfl, fun p hp => absurd hp (Nat.not_lt_zero _)⟩
      rintro n z ⟨k, hk, rfl, rfl, hz⟩
      by_cases hkn : k = gn G
      · right
        subst hkn
        refine ⟨Sum.inl (), ?_, Or.inl ⟨rfl, hz⟩⟩
        unfold l_X6_isCentral_12
        rw [e_gF, h.1, if_pos (i_le (Nat.le_refl _) (by omega))]
      · have hbody : l_X6_isCentral_12 σ 2 (i32 v) (i32 i) (i32 k) = if i32 (gt G (max i v) (min i v) k) = 0 then some (Sum.inl (i32 k + 1)) else some (Sum.inr (Sum.inr (Sum.inr false))) := by
          unfold l_X6_isCentral_12
          rw [e_gF, h.1, if_neg (i_nle (by omega) (by omega)), e_maxN (by omega) (by omega), e_bs, e_min (by omega) (by omega), e_bs, c_read hG h RA2.1.1 RA2.1.2 (by omega) (by omega) (by omega), e_bs]
        by_cases hz0 : gt G (max i v) (min i v) k = 0
        · left
          refine ⟨i32 (k + 1), gn G - (k + 1), by omega, ?_, k + 1, by omega, rfl, rfl, fun p hp => ?_⟩
          · rw [hbody, hz0, if_pos (show i32 0 = 0 from rfl), i32_1, i32_add]
          · by_cases hpk : p = k
            · rw [hpk]; exact hz0
            · exact hz p (by omega)
        · right
          have ht3 := hG.2.2.2.2.2.1 (max i v) (min i v) k
          refine ⟨_, ?_, Or.inr ⟨rfl, fun q => hz0 (q k (by omega))⟩⟩
          rw [hbody, if_neg (i_ne0 hz0 (by omega))]
    obtain ⟨r, er, hcase⟩ := inner
    have hstep : l_X6_isCentral_2 σ 2 (i32 v) (i32 i) = (some r).bind (Sum.elim (fun (z2 : Unit) => j_X6_isCentral_46 (i32 i)) some) := by
      unfold l_X6_isCentral_2
      rw [e_gF, h.1, if_neg (i_nle (by omega) (by omega)), er]
    rcases hcase with ⟨rfl, hz⟩ | ⟨rfl, hz⟩
    · left
      refine ⟨i32 (i + 1), gn G - (i + 1), by omega, ?_, i + 1, by omega, rfl, rfl, fun p hp => ?_⟩
      · rw [hstep, e_bs]
        show j_X6_isCentral_46 (i32 i) = _
        unfold j_X6_isCentral_46
        rw [i32_1, i32_add]
      · by_cases hpi : p = i
        · rw [hpi]; exact hz
        · exact hd p (by omega)
    · right
      refine ⟨false, ?_, fun q => absurd q (by decide), fun q => absurd (fun k hk => q i (by omega) k hk) hz⟩
      rw [hstep, e_bs]
      rfl
theorem EE_sb {B : Int} (hB : 1 ≤ B) (i : Nat) : SB G B (EE i) := fun j _ _ => by have := EE_01 i j; omega
/-- the reference's test of an element -/
theorem r_central {f : SF} (hG : GOK G) (hJ : Jac G) (hM : MG σ G) (h0 : M0 σ) {s t : Nat} (hst : s < t) (ht : t + 3 < 100) (sA : SB G 999 (f s)) : ∃ b g, f_X11_isCentral (PS σ f) (i32 s) (i32 t) = some (b, PS σ g) ∧ (b = true ↔ ∀ i, i < gn G → areS G (mul G (f s) (EE i)) (mul G (EE i) (f s)) = true) ∧ ∀ q, q < t → g q = f q := by
  have hn := hG.2.1
  unfold f_X11_isCentral
  have hl := loop_inv (body := fun (z2 : (Mem × Int32)) => l_X11_isCentral_2 (i32 s) (i32 t) z2.1 z2.2) (fun n z => ∃ i g, i ≤ gn G ∧ n = gn G - i ∧ z = (PS σ g, i32 i) ∧ (∀ q, q < t → g q = f q) ∧ ∀ p, p < i → areS G (mul G (f s) (EE p)) (mul G (EE p) (f s)) = true) (fun r => ∃ b g, r = (b, PS σ g) ∧ (b = true ↔ ∀ i, i < gn G → areS G (mul G (f s) (EE i)) (mul G (EE i) (f s)) = true) ∧ ∀ q, q < t → g q = f q) ?_ (gn G) (PS σ f, 0) ⟨0, f, by omega, rfl, rfl, fun _ _ => rfl, fun p hp => absurd hp (Nat.not_lt_zero _)⟩
  · obtain ⟨r, e, b, g, rfl, h1, h2⟩ := hl
    exact ⟨b, g, e, h1, h2⟩
  · rintro n z ⟨i, g, hi, rfl, rfl, hg, hd⟩
    by_cases hin : i = gn G
    · right
      subst hin
      refine ⟨_, ?_, true, g, rfl, ⟨fun _ => hd, fun _ => rfl⟩, hg⟩
      show l_X11_isCentral_2 (i32 s) (i32 t) (PS σ g) (i32 (gn G)) = _
      unfold l_X11_isCentral_2
      rw [e_n (PS_MG hM), e_bs, if_pos (i_le (Nat.le_refl _) (by omega))]
    · have a1 : f_X11_ones (PS σ g) (i32 t) = some (PS σ (uS g t (fun _ => 0))) := p_ones (by omega)
      have a2 : f_X11_puts (PS σ (uS g t (fun _ => 0))) (i32 t) (i32 i) 1 = some (PS σ (uS (uS g t (fun _ => 0)) t (uV ((uS g t (fun _ => 0)) t) i 1))) := p_puts (σ := σ) (f := uS g t (fun _ => 0)) (x := 1) (by omega) (by omega)
      have v1 : (uS (uS g t (fun _ => 0)) t (uV ((uS g t (fun _ => 0)) t) i 1)) t = EE i := by
        rw [uS_self, uS_self]
        rfl
      have v0 : (uS (uS g t (fun _ => 0)) t (uV ((uS g t (fun _ => 0)) t) i 1)) s = f s := by
        rw [uS_ne (by omega), uS_ne (by omega)]
        exact hg s hst
      have vq : ∀ q, q < t → (uS (uS g t (fun _ => 0)) t (uV ((uS g t (fun _ => 0)) t) i 1)) q = f q := fun q hq => by
        rw [uS_ne (by omega), uS_ne (by omega)]
        exact hg q hq
      generalize uS (uS g t (fun _ => 0)) t (uV ((uS g t (fun _ => 0)) t) i 1) = g1 at a2 v1 v0 vq
      obtain ⟨g2, e2, w2, k2⟩ := p_commutator (σ := σ) (f := g1) hM hG h0 (s := s) (r := t) (t := t + 1) (by omega) (by omega) (by omega) (by omega) (by omega) (B := 999) (by omega) (by omega) (by rw [v0]; exact sA) (by rw [v1]; exact EE_sb (by omega) i)
      rw [v0, v1] at w2
      have e3 : f_X11_isOne (PS σ g2) (i32 (t + 1)) = some (isO G (g2 (t + 1))) := p_isOne hM hG (by omega)
      rw [w2, isO_comm hG hJ] at e3
      have hbody : l_X11_isCentral_2 (i32 s) (i32 t) (PS σ g) (i32 i) = if areS G (mul G (f s) (EE i)) (mul G (EE i) (f s)) = true then some (Sum.inl (PS σ g2, i32 i + 1)) else some (Sum.inr (false, PS σ g2)) := by
        unfold l_X11_isCentral_2 f_X11_areCommuting
        rw [e_n (PS_MG hM), e_bs, if_neg (i_nle (by omega) (by omega)), a1, e_bs, a2, e_bs, i32_1, i32_add, e2, e_bs, e3, e_bs, e_bq, i32_add]
      by_cases hb : areS G (mul G (f s) (EE i)) (mul G (EE i) (f s)) = true
      · left
        refine ⟨(PS σ g2, i32 (i + 1)), gn G - (i + 1), by omega, ?_, i + 1, g2, by omega, rfl, rfl, fun q hq => by rw [k2 q (by omega)]; exact vq q hq, fun p hp => ?_⟩
        · show l_X11_isCentral_2 (i32 s) (i32 t) (PS σ g) (i32 i) = _
          rw [hbody, if_pos hb, i32_1, i32_add]
        · by_cases hpi : p = i
          · rw [hpi]; exact hb
          · exact hd p (by omega)
      · right
        refine ⟨_, ?_, false, g2, rfl, ⟨fun q => absurd q (by decide), fun q => absurd (q i (by omega)) hb⟩, fun q hq => by rw [k2 q (by omega)]; exact vq q hq⟩
        show l_X11_isCentral_2 (i32 s) (i32 t) (PS σ g) (i32 i) = _
        rw [hbody, if_neg hb]
theorem r_centralLetter {f : SF} (hG : GOK G) (hJ : Jac G) (hM : MG σ G) (h0 : M0 σ) {v : Nat} (hv : v < gn G) : ∃ b g, f_X11_isCentralLetter (PS σ f) (i32 v) = some (b, PS σ g) ∧ (b = true ↔ Ctl G v) := by
  have hn := hG.2.1
  have a1 : f_X11_ones (PS σ f) 0 = some (PS σ (uS f 0 (fun _ => 0))) := p_ones (s := 0) (by omega)
  have a2 : f_X11_puts (PS σ (uS f 0 (fun _ => 0))) 0 (i32 v) 1 = some (PS σ (uS (uS f 0 (fun _ => 0)) 0 (uV ((uS f 0 (fun _ => 0)) 0) v 1))) := p_puts (σ := σ) (f := uS f 0 (fun _ => 0)) (s := 0) (x := 1) (by omega) (by omega)
  have v1 : (uS (uS f 0 (fun _ => 0)) 0 (uV ((uS f 0 (fun _ => 0)) 0) v 1)) 0 = EE v := by
    rw [uS_self, uS_self]
    rfl
  generalize uS (uS f 0 (fun _ => 0)) 0 (uV ((uS f 0 (fun _ => 0)) 0) v 1) = g1 at a2 v1
  obtain ⟨b, g, e, hb, _⟩ := r_central (σ := σ) (f := g1) hG hJ hM h0 (s := 0) (t := 1) (by omega) (by omega) (by rw [v1]; exact EE_sb (by omega) v)
  rw [v1, ctl_iff hG hv] at hb
  refine ⟨b, g, ?_, hb⟩
  unfold f_X11_isCentralLetter
  have e' : f_X11_isCentral (PS σ g1) 0 1 = some (b, PS σ g) := e
  rw [a1, e_bs, a2, e_bs, e', e_bq]
theorem ok_19 : Ok_19 II := by
  intro c σ x w hc ⟨S, ok, h, hr⟩
  have hG : GOK (aG S) := ok.1.1
  have hn : gn (aG S) ≤ 6 := hG.2.1
  obtain ⟨b, hb, hB⟩ := c_cons h
  have f0 : LO σ (wI σ 306 0 0) := LO.row (by omega)
  have hr0 := hr.told
  unfold f_X10_generator f_X11_generator
  rw [c_isGen h.1.1.1 hn, e_bs, e_pF, e_n hr0.1.mg, e_bs, r_isGen hn, e_bs]
  cases hx : isGen (gn (aG S)) x with
  | false =>
    rw [if_neg (by decide), if_neg (by decide)]
    exact ⟨_, _, rfl, rfl, fin_q ok h hr0 f0⟩
  | true =>
    obtain ⟨k, hk, rfl, hk1⟩ := isGen_idx hx
    rw [if_pos rfl, if_pos rfl, hk1]
    by_cases w0 : w = 0
    · subst w0
      rw [if_neg (by decide), if_pos (by decide), if_pos rfl, if_pos rfl, e_gI ln_3 (by omega) (by omega), h.1.1.2.1 k (by omega), e_weight hr0.1.mg (by omega), e_bs]
      exact ⟨_, _, rfl, rfl, fin_q ok h hr0 f0⟩
    · by_cases w1 : w = 1
      · subst w1
        rw [if_neg (by decide), if_pos (by decide), if_neg (by decide), if_neg (by decide), if_pos rfl, e_gZ hb]
        obtain ⟨b3, τ, e3, q3, l3, _, _, hc3⟩ := r_cons hr0 ok
        have : b3 = b := bool_iff hc3 hB
        subst this
        rw [e3, e_bq]
        cases hbt : b3 with
        | false =>
          rw [if_neg (by decide), if_neg (by decide), e_bs]
          exact ⟨_, _, rfl, rfl, fin_q ok h q3 (f0.trans l3)⟩
        | true =>
          have hJ := Cons.jac hG (hB.mp hbt)
          obtain ⟨⟨f, hf⟩, hI, hL, hM, h0, hRB⟩ := at_slots q3
          obtain ⟨bc, ec, hbc⟩ := c_isCentral hG h.1.1 hk
          obtain ⟨br, g, er, hbr⟩ := r_centralLetter (σ := τ) (f := f) hG hJ hM h0 hk
          have : br = bc := bool_iff hbr hbc
          subst this
          rw [hf] at er
          rw [if_pos rfl, if_pos rfl, ec, e_bs, er, e_bq]
          unfold f_X10_bit
          cases br with
          | false => exact ⟨0, _, rfl, rfl, fin_q ok h (hI g) (f0.trans (l3.trans (hL _)))⟩
          | true => exact ⟨1, _, rfl, rfl, fin_q ok h (hI g) (f0.trans (l3.trans (hL _)))⟩
      · rw [if_neg w1, e_bs, if_neg w0]
        refine ⟨-1, _, ?_, (by rw [if_neg w0]; rfl), fin_q ok h hr0 f0⟩
        by_cases h1 : w < 0
        · rw [if_pos h1]
        · rw [if_neg h1, if_neg (fun q => by
            have a1 : ¬ w.toInt < 0 := fun z => h1 ((lt32 (k := 0) (by omega)).mpr z)
            have a2 := (le32 (k := 1) (by omega)).mp q
            have a3 := i32_of (x := w) (by omega)
            rcases (show w.toInt.toNat = 0 ∨ w.toInt.toNat = 1 by omega) with z | z
            · rw [z] at a3; exact w0 a3
            · rw [z] at a3; exact w1 a3)]
end CEN
section LOK
variable {σ : Mem} {G : GD}
def cpos (f : Nat → Int32) : Nat → Int32
  | 0 => 0
  | p + 1 => if f p ≤ 0 then cpos f p else cpos f p + 1
def bits (f : Nat → Bool) : Nat → Int32
  | 0 => 0
  | k + 1 => if f k = true then bits f k ||| (1 <<< (i32 k &&& 31)) else bits f k
theorem c_top2 (hG : GOK G) (h : CG σ 2 G) : f_X6_top σ 2 = some (i32 (topG G)) := c_top hG h (by decide +kernel) ln_3
theorem c_tails {f : Nat → Int32} (hf : ∀ p, p < 216 → σ.1 4 p = f p) : f_X6_tailsAboveZero σ 2 = some (cpos f 216) := by
  unfold f_X6_tailsAboveZero
  refine loop_up (body := fun (z2 : (Int32 × Int32)) => l_X6_tailsAboveZero_4 σ 2 z2.1 z2.2) (fun k => (cpos f k, i32 k)) 0 216 _ (by omega) (fun k _ hk => ?_) ?_
  · show l_X6_tailsAboveZero_4 σ 2 (cpos f k) (i32 k) = _
    unfold l_X6_tailsAboveZero_4
    rw [RA2.1.1, show ln (2 + 2) = 216 from ln_4, show Int32.ofNat 216 = i32 216 from rfl, if_neg (i_nle (a := 216) hk (by omega)), e_gI ln_4 hk (by omega), hf k hk]
    by_cases hp : f k ≤ 0
    · rw [if_pos hp, e_bs]
      unfold j_X6_tailsAboveZero_28
      rw [e_bd, i32_1, i32_add, cpos, if_pos hp]
      show some (Sum.inl (cpos f k + 0, _)) = _
      rw [Int32.add_zero]
    · rw [if_neg hp, e_bs]
      unfold j_X6_tailsAboveZero_28
      rw [e_bd, i32_1, i32_add, cpos, if_neg hp]
      rfl
  · show l_X6_tailsAboveZero_4 σ 2 (cpos f 216) (i32 216) = _
    unfold l_X6_tailsAboveZero_4
    rw [RA2.1.1, show ln (2 + 2) = 216 from ln_4, show Int32.ofNat 216 = i32 216 from rfl, if_pos (i_le (a := 216) (Nat.le_refl _) (by omega))]
theorem r_tailsAll {f : Nat → Int32} (hf : ∀ p, p < 216 → σ.1 307 (7 + p) = f p) : f_X11_tails σ = some (cpos f 216) := by
  unfold f_X11_tails
  refine loop_up (body := fun (z2 : (Int32 × Int32)) => l_X11_tails_5 σ z2.1 z2.2) (fun k => (cpos f k, i32 (7 + k))) 0 216 _ (by omega) (fun k _ hk => ?_) ?_
  · show l_X11_tails_5 σ (cpos f k) (i32 (7 + k)) = _
    unfold l_X11_tails_5
    rw [i32_223, if_neg (i_nle (by omega) (by omega)), e_gI ln_307 (by omega) (by omega), hf k hk]
    by_cases hp : f k ≤ 0
    · rw [if_pos hp, e_bs]
      unfold j_X11_tails_25
      rw [i32_1, i32_add, cpos, if_pos hp]
      rfl
    · rw [if_neg hp, e_bd, e_bs]
      unfold j_X11_tails_25
      rw [show i32 (7 + k) + 1 = i32 (7 + k + 1) from by rw [i32_1, i32_add], cpos, if_neg hp]
      rfl
  · show l_X11_tails_5 σ (cpos f 216) (i32 (7 + 216)) = _
    unfold l_X11_tails_5
    rw [i32_223, if_pos (i_le (Nat.le_refl _) (by omega))]
def csum (f : Nat → Int32) : Nat → Int32
  | 0 => 0
  | p + 1 => csum f p + f p
theorem c_count4 {f : Nat → Int32} (hf : ∀ k, k < 6 → σ.1 (48 + 4 * k) 0 = f k) : f_X4_termCount σ = some (csum f 6) := by
  unfold f_X4_termCount
  refine loop_up (body := fun (z2 : (Int32 × Int32)) => l_X4_termCount_4 σ z2.1 z2.2) (fun k => (csum f k, i32 k)) 0 6 _ (by omega) (fun k _ hk => ?_) ?_
  · show l_X4_termCount_4 σ (csum f k) (i32 k) = _
    unfold l_X4_termCount_4
    rw [i32_6, if_neg (i_nle hk (by omega)), e_gR ln_44 hk (by omega), rf_44 hk, e_gF, e_bd, hf k hk, i32_1, i32_add]
    rfl
  · show l_X4_termCount_4 σ (csum f 6) (i32 6) = _
    unfold l_X4_termCount_4
    rw [i32_6, if_pos (i_le (Nat.le_refl _) (by omega))]
theorem r_countAll {f : Nat → Int32} (hf : ∀ k, k < 6 → σ.1 311 k = f k) : loopO (fun (z3 : (Int32 × Int32)) => l_X11_termsOfAll_8 σ z3.1 z3.2) (0, 0) = some (csum f 6, σ) := by
  refine loop_up (body := fun (z3 : (Int32 × Int32)) => l_X11_termsOfAll_8 σ z3.1 z3.2) (fun k => (csum f k, i32 k)) 0 6 _ (by omega) (fun k _ hk => ?_) ?_
  · show l_X11_termsOfAll_8 σ (csum f k) (i32 k) = _
    unfold l_X11_termsOfAll_8
    rw [i32_6, if_neg (i_nle hk (by omega)), e_gI ln_311 hk (by omega), e_bd, hf k hk, i32_1, i32_add]
    rfl
  · show l_X11_termsOfAll_8 σ (csum f 6) (i32 6) = _
    unfold l_X11_termsOfAll_8
    rw [i32_6, if_pos (i_le (Nat.le_refl _) (by omega))]
theorem c_notOnes {c : Nat} {S : AS} (h : ICls c S σ) (ok : OKS S) : f_X10_registersNotOne σ = some (bits (fun r => !(isO (aG S) (aR S r))) 10) := by
  have hG : GOK (aG S) := ok.1.1
  unfold f_X10_registersNotOne
  refine loop_up (body := fun (z2 : (Int32 × Int32)) => l_X10_registersNotOne_4 σ z2.1 z2.2) (fun k => (bits (fun r => !(isO (aG S) (aR S r))) k, i32 k)) 0 10 _ (by omega) (fun k _ hk => ?_) ?_
  · show l_X10_registersNotOne_4 σ _ (i32 k) = _
    unfold l_X10_registersNotOne_4
    rw [i32_10, if_neg (i_nle hk (by omega)), e_gR ln_5 hk (by omega), rf_5 hk, c_isOne hG (ln_reg hk) (c_reg h hk) (reg_z6 ok k), e_bs, bits]
    cases hb : isO (aG S) (aR S k) with
    | false =>
      rw [if_neg (by decide), e_bd, e_bs, if_pos (by decide)]
      unfold j_X10_registersNotOne_31
      rw [show i32 k + 1 = i32 (k + 1) from by rw [i32_1, i32_add]]
    | true =>
      rw [if_pos rfl, e_bs, if_neg (by decide)]
      unfold j_X10_registersNotOne_31
      rw [show i32 k + 1 = i32 (k + 1) from by rw [i32_1, i32_add]]
  · show l_X10_registersNotOne_4 σ _ (i32 10) = _
    unfold l_X10_registersNotOne_4
    rw [i32_10, if_pos (i_le (Nat.le_refl _) (by omega))]
theorem r_notOnes {S : AS} {f : SF} (hr : IRef S σ) (ok : OKS S) : ∃ g, f_X11_notOnes (PS σ f) = some (bits (fun r => !(isO (aG S) (aR S r))) 10, PS σ g) := by
  have hG : GOK (aG S) := ok.1.1
  unfold f_X11_notOnes
  have hl := loop_inv (body := fun (z3 : (Mem × Int32 × Int32)) => l_X11_notOnes_4 z3.1 z3.2.1 z3.2.2) (fun n z => ∃ k g, k ≤ 10 ∧ n = 10 - k ∧ z = (PS σ g, bits (fun r => !(isO (aG S) (aR S r))) k, i32 k)) (fun r => ∃ g, r = (bits (fun r => !(isO (aG S) (aR S r))) 10, PS σ g)) ?_ 10 (PS σ f, 0, 0) ⟨0, f, by omega, rfl, rfl⟩
  · obtain ⟨r, e, g, rfl⟩ := hl
    exact ⟨g, e⟩
  · rintro n z ⟨k, g, hk, rfl, rfl⟩
    by_cases hk10 : k = 10
    · right
      subst hk10
      refine ⟨_, ?_, g, rfl⟩
      show l_X11_notOnes_4 (PS σ g) _ (i32 10) = _
      unfold l_X11_notOnes_4
      rw [i32_10, if_pos (i_le (Nat.le_refl _) (by omega))]
    · left
      refine ⟨(PS σ (uS g 0 (aR S k)), bits (fun r => !(isO (aG S) (aR S r))) (k + 1), i32 (k + 1)), 10 - (k + 1), by omega, ?_, k + 1, _, by omega, rfl, rfl⟩
      show l_X11_notOnes_4 (PS σ g) _ (i32 k) = _
      unfold l_X11_notOnes_4
      have a1 : f_X11_laysRegister (PS σ g) 0 (i32 k) = some (PS σ (uS g 0 (aR S k))) := p_lays (σ := σ) (f := g) hr.1 ok (s := 0) (by omega) (by omega)
      have a2 : f_X11_isOne (PS σ (uS g 0 (aR S k))) 0 = some (isO (aG S) ((uS g 0 (aR S k)) 0)) := p_isOne hr.1.mg hG (s := 0) (by omega)
      rw [uS_self] at a2
      rw [i32_10, if_neg (i_nle (by omega) (by omega)), a1, e_bs, a2, e_bs, bits]
      cases hb : isO (aG S) (aR S k) with
      | false =>
        rw [if_neg (by decide), e_bd, e_bs, if_pos (by decide)]
        unfold j_X11_notOnes_30
        rw [show i32 k + 1 = i32 (k + 1) from by rw [i32_1, i32_add]]
      | true =>
        rw [if_pos rfl, e_bs, if_neg (by decide)]
        unfold j_X11_notOnes_30
        rw [show i32 k + 1 = i32 (k + 1) from by rw [i32_1, i32_add]]
noncomputable def ctb (G : GD) (v : Nat) : Bool := @decide (Ctl G v) (Classical.propDecidable _)
theorem ctb_iff {v : Nat} {b : Bool} (h : b = true ↔ Ctl G v) : b = ctb G v := bool_iff h ⟨fun q => @of_decide_eq_true _ (Classical.propDecidable _) q, fun q => @decide_eq_true _ (Classical.propDecidable _) q⟩
theorem c_centrals (hG : GOK G) (h : CG σ 2 G) : f_X10_centralGenerators σ = some (bits (ctb G) (gn G)) := by
  have hn := hG.2.1
  unfold f_X10_centralGenerators
  refine loop_up (body := fun (z2 : (Int32 × Int32)) => l_X10_centralGenerators_4 σ z2.1 z2.2) (fun k => (bits (ctb G) k, i32 k)) 0 (gn G) _ (by omega) (fun k _ hk => ?_) ?_
  · show l_X10_centralGenerators_4 σ _ (i32 k) = _
    unfold l_X10_centralGenerators_4
    obtain ⟨b, e, hb⟩ := c_isCentral hG h hk
    rw [e_gF, h.1, if_neg (i_nle hk (by omega)), e, e_bs, bits, ctb_iff hb]
    cases ctb G k with
    | false =>
      rw [if_neg (by decide), e_bs, if_neg (by decide)]
      unfold j_X10_centralGenerators_38
      rw [show i32 k + 1 = i32 (k + 1) from by rw [i32_1, i32_add]]
    | true =>
      rw [if_pos rfl, e_bd, e_bs, if_pos rfl]
      unfold j_X10_centralGenerators_38
      rw [show i32 k + 1 = i32 (k + 1) from by rw [i32_1, i32_add]]
  · show l_X10_centralGenerators_4 σ _ (i32 (gn G)) = _
    unfold l_X10_centralGenerators_4
    rw [e_gF, h.1, if_pos (i_le (Nat.le_refl _) (by omega))]
/-- the reference's: one group or none -/
theorem r_centrals {S : AS} {c : Bool} {σ0 : Mem} (ok : OKS S) (hr : IRef S σ) (h9 : σ.1 306 9 = 1) (hL : Laid σ (aG S)) (hc : c = true ↔ Cons (aG S)) {f : SF} (hM0 : MG σ0 (aG S)) (e0 : f_X11_isConsistent σ0 = some (c, PS σ f)) : ∃ g, f_X11_centrals σ0 = some (if c = true then bits (ctb (aG S)) (gn (aG S)) else 0, PS σ g) := by
  have hG : GOK (aG S) := ok.1.1
  have hn : gn (aG S) ≤ 6 := hG.2.1
  have hn1 : 1 ≤ gn (aG S) := hG.1
  have again : ∀ g, f_X11_isConsistent (PS σ g) = some (c, PS σ g) := fun g => by
    have hLg : Laid (PS σ g) (aG S) := by
      obtain ⟨c', a1, a2, a3⟩ := hL
      refine ⟨c', a1, a2, fun k hk => ?_⟩
      unfold RT
      rw [PS_1, PS_2 (by omega)]
      exact a3 k hk
    obtain ⟨c', e, hc'⟩ := r_again (σ := PS σ g) h9 hLg
    rw [e, bool_iff hc' hc]
  unfold f_X11_centrals
  cases hcb : c with
  | false =>
    refine ⟨f, ?_⟩
    rw [if_neg (by decide)]
    refine loop_up (body := fun (z3 : (Mem × Int32 × Int32)) => l_X11_centrals_4 z3.1 z3.2.1 z3.2.2) (fun k => (σ0, 0, i32 k)) 0 0 _ (by omega) (fun k _ hk => by omega) ?_
    show l_X11_centrals_4 σ0 0 (i32 0) = _
    unfold l_X11_centrals_4
    rw [e_n hM0, e_bs, if_neg (i_nle (by omega) (by omega)), e0, e_bq, hcb, if_neg (by decide)]
  | true =>
    have hcons := hc.mp hcb
    have hJ := Cons.jac hG hcons
    rw [if_pos rfl]
    have hl := loop_inv (body := fun (z3 : (Mem × Int32 × Int32)) => l_X11_centrals_4 z3.1 z3.2.1 z3.2.2) (fun n z => ∃ k ρ, k ≤ gn (aG S) ∧ n = gn (aG S) - k ∧ z = (ρ, bits (ctb (aG S)) k, i32 k) ∧ MG ρ (aG S) ∧ (∃ g, f_X11_isConsistent ρ = some (c, PS σ g)) ∧ (k ≠ 0 → ∃ g, ρ = PS σ g)) (fun r => ∃ g, r = (bits (ctb (aG S)) (gn (aG S)), PS σ g)) ?_ (gn (aG S)) (σ0, 0, 0) ⟨0, σ0, by omega, rfl, rfl, hM0, ⟨f, e0⟩, fun q => absurd rfl q⟩
    · obtain ⟨r, e, g, rfl⟩ := hl
      exact ⟨g, e⟩
    · rintro n z ⟨k, ρ, hk, rfl, rfl, hMr, ⟨g, eg⟩, hz⟩
      by_cases hkn : k = gn (aG S)
      · right
        subst hkn
        obtain ⟨g, rfl⟩ := hz (by omega)
        refine ⟨_, ?_, g, rfl⟩
        show l_X11_centrals_4 (PS σ g) _ (i32 (gn (aG S))) = _
        unfold l_X11_centrals_4
        rw [e_n (show MG (PS σ g) (aG S) from PS_MG hr.1.mg), e_bs, if_pos (i_le (Nat.le_refl _) (by omega))]
      · left
        obtain ⟨b, g2, e2, hb⟩ := r_centralLetter (σ := σ) (f := g) hG hJ hr.1.mg hr.2.2.2.2.2.2.2 (v := k) (by omega)
        refine ⟨(PS σ g2, bits (ctb (aG S)) (k + 1), i32 (k + 1)), gn (aG S) - (k + 1), by omega, ?_, k + 1, _, by omega, rfl, rfl, PS_MG hr.1.mg, ⟨g2, again g2⟩, fun _ => ⟨g2, rfl⟩⟩
        show l_X11_centrals_4 ρ _ (i32 k) = _
        unfold l_X11_centrals_4
        rw [e_n hMr, e_bs, if_neg (i_nle (by omega) (by omega)), eg, e_bq, hcb, if_pos rfl, e2, e_bq, bits, ctb_iff hb]
        cases ctb (aG S) k with
        | false =>
          rw [if_neg (by decide), e_bs, if_neg (by decide)]
          unfold j_X11_centrals_33
          rw [show i32 k + 1 = i32 (k + 1) from by rw [i32_1, i32_add]]
        | true =>
          rw [if_pos rfl, e_bd, e_bs, if_pos rfl]
          unfold j_X11_centrals_33
          rw [show i32 k + 1 = i32 (k + 1) from by rw [i32_1, i32_add]]
theorem gt_flat {c : Nat} {S : AS} (h : ICls c S σ) {τ : Mem} (hr : IRef S τ) : ∀ p, p < 216 → τ.1 307 (7 + p) = σ.1 4 p := by
  intro p hp
  have e1 := h.1.1.2.2 (p / 36) (p / 6 % 6) (p % 6) (by omega) (by omega) (by omega)
  have e2 := hr.1.2.2.1 (p / 36) (p / 6 % 6) (p % 6) (by omega) (by omega) (by omega)
  have i1 : (p / 36 * 6 + p / 6 % 6) * 6 + p % 6 = p := by omega
  have i2 : 0 + (7 + 36 * (p / 36) + 6 * (p / 6 % 6) + p % 6) = 7 + p := by omega
  rw [i1] at e1
  rw [i2] at e2
  rw [e2]
  exact e1.symm
theorem ok_32 : Ok_32 II := by
  intro c σ x hc ⟨S, ok, h, hr⟩
  have hG : GOK (aG S) := ok.1.1
  have hn : gn (aG S) ≤ 6 := hG.2.1
  obtain ⟨b, hb, hB⟩ := c_cons h
  have f0 : LO σ (wI σ 306 0 0) := LO.row (by omega)
  have hr0 := hr.told
  unfold f_X10_look f_X11_look
  rw [e_pF]
  by_cases h0 : x = 0
  · rw [if_pos h0, if_pos h0, e_gF, h.1.1.1, e_n hr0.1.mg, e_bs]
    exact ⟨_, _, rfl, rfl, fin_q ok h hr0 f0⟩
  rw [if_neg h0, if_neg h0]
  by_cases h1 : x = 1
  · rw [if_pos h1, if_pos h1, c_top2 hG h.1.1, e_bs, r_level hG hr0.1.mg, e_bs]
    exact ⟨_, _, rfl, rfl, fin_q ok h hr0 f0⟩
  rw [if_neg h1, if_neg h1]
  by_cases h2 : x = 2
  · obtain ⟨b3, τ, e3, q3, l3, _, _, hc3⟩ := r_cons hr0 ok
    have : b3 = b := bool_iff hc3 hB
    subst this
    rw [if_pos h2, if_pos h2, e_gZ hb, e3, e_bq]
    unfold f_X10_bit
    cases b3 with
    | false => exact ⟨_, _, rfl, rfl, fin_q ok h q3 (f0.trans l3)⟩
    | true => exact ⟨_, _, rfl, rfl, fin_q ok h q3 (f0.trans l3)⟩
  rw [if_neg h2, if_neg h2]
  by_cases h3 : x = 3
  · rw [if_pos h3, if_pos h3, c_tails (f := fun p => σ.1 4 p) (fun p _ => rfl), e_bs, r_tailsAll (f := fun p => σ.1 4 p) (fun p hp => gt_flat h hr0 p hp), e_bs]
    exact ⟨_, _, rfl, rfl, fin_q ok h hr0 f0⟩
  rw [if_neg h3, if_neg h3]
  by_cases h4 : x = 4
  · rw [if_pos h4, if_pos h4]
    obtain ⟨τ, e, f, h9, hl⟩ := r_lays hr0.1.mg hG hr0.2.2.2.2.2.2.2 hr0.2.2.2.2.2.2.1
    have q3 : IRef S τ := hr0.fly f ⟨true, h9, fun _ => hl⟩
    obtain ⟨c2, hc2, hC2, ht⟩ := hl
    have : c2 = b := bool_iff hC2 hB
    subst this
    have hf : ∀ k, k < 6 → σ.1 (48 + 4 * k) 0 = i32 (if c2 = true ∧ k < gn (aG S) then Tk (aG S) k else []).length := by
      intro k hk
      cases hbt : c2 with
      | true =>
        have hct := c_ct h (hB.mp hbt) k hk
        by_cases hkn : k < gn (aG S)
        · rw [if_pos hkn] at hct
          rw [if_pos ⟨rfl, hkn⟩]; exact hct.1
        · rw [if_neg hkn] at hct
          rw [if_neg (fun q => hkn q.2)]; exact hct.1
      | false =>
        obtain ⟨c3, k1, k2, k3, k4⟩ := h.2.2.2.2.2.2.2.1
        have : c3 = c2 := bool_iff k2 hB
        subst this
        rw [if_neg (fun q => absurd q.1 (by decide))]
        exact (k4 hbt k hk).1
    unfold f_X11_termsOfAll
    rw [c_count4 hf, e_bs, e, e_bs, r_countAll (fun k hk => (ht k hk).1), e_bq]
    exact ⟨_, _, rfl, rfl, fin_q ok h q3 (f0.trans f.lo)⟩
  rw [if_neg h4, if_neg h4]
  by_cases h5 : x = 5
  · obtain ⟨⟨f, hf⟩, hI, hL, hM, hm0, hRB⟩ := at_slots hr0
    obtain ⟨g, e⟩ := r_notOnes (f := f) hr0 ok
    rw [hf] at e
    rw [if_pos h5, if_pos h5, c_notOnes h ok, e_bs, e, e_bq]
    exact ⟨_, _, rfl, rfl, fin_q ok h (hI g) (f0.trans (hL g))⟩
  rw [if_neg h5, if_neg h5]
  by_cases h6 : x = 6
  · rw [if_pos h6, if_pos h6, e_gF, e_gF, h.2.2.1.1, hr0.2.2.1.1]
    exact ⟨_, _, rfl, rfl, fin_q ok h hr0 f0⟩
  rw [if_neg h6, if_neg h6]
  by_cases h7 : x = 7
  · rw [if_pos h7, if_pos h7, e_gF, e_gF, h.2.2.2.2.1.1, hr0.2.2.2.2.1.1]
    exact ⟨_, _, rfl, rfl, fin_q ok h hr0 f0⟩
  rw [if_neg h7, if_neg h7]
  by_cases h8 : x = 8
  · have e8 : gI σ 16 0 (fun (v19 : Int32) => some v19) = some (aT S).1 := (e_gI (k := 0) ln_16 (by omega) (by omega)).trans (by rw [h.2.1.1])
    rw [if_pos h8, if_pos h8, e8, e_gF, hr0.2.1.1]
    exact ⟨_, _, rfl, rfl, fin_q ok h hr0 f0⟩
  rw [if_neg h8, if_neg h8]
  by_cases h9 : x = 9
  · obtain ⟨b3, τ, e3, q3, l3, k9, hl, hc3⟩ := r_cons hr0 ok
    have : b3 = b := bool_iff hc3 hB
    subst this
    obtain ⟨⟨f, hf⟩, hI, hL, hM, hm0, hRB⟩ := at_slots q3
    obtain ⟨g, e⟩ := r_centrals (σ := τ) (σ0 := wI σ 306 0 0) ok q3 k9 hl hB (f := f) hr0.1.mg (by rw [hf]; exact e3)
    rw [if_pos h9, if_pos h9, e_gZ hb, e, e_bq]
    cases b3 with
    | false => exact ⟨_, _, rfl, rfl, fin_q ok h (hI g) (f0.trans (l3.trans (hL g)))⟩
    | true =>
      rw [if_pos rfl, if_pos rfl, c_centrals hG h.1.1, e_bs]
      exact ⟨_, _, rfl, rfl, fin_q ok h (hI g) (f0.trans (l3.trans (hL g)))⟩
  rw [if_neg h9, if_neg h9]
  exact ⟨_, _, rfl, rfl, fin_q ok h hr0 f0⟩
end LOK
end
