/-! set, multiply, invert, power, commute, conjugate, root -/
section MLT
variable {σ : Mem} {G : GD}
theorem fin_kept {c : Nat} {S : AS} {r : Nat} {A B : Nat → Int} {τ : Mem} (ok : OKS S) (h : EqG (aG S) A B) (hc : ICls (c + 1) (if isEl (aG S) A = true then nS S r A else ovS S) σ) (hr : IRef (if isEl (aG S) B = true then nS S r B else ovS S) τ) (f : LO σ τ) : II (c + 1) τ := by
  have e1 := isEl_congr h
  have e2 : nS S r A = nS S r B := by unfold nS; rw [upR_congr h]
  rw [e1, e2] at hc
  refine ⟨_, ?_, hc.lo f, hr⟩
  by_cases h1 : isEl (aG S) B = true
  · rw [if_pos h1]; exact nS_ok ok h1
  · rw [if_neg h1]; exact ovS_ok ok
theorem at_slots {S : AS} {τ : Mem} (h : IRef S τ) : (∃ f, PS τ f = τ) ∧ (∀ g, IRef S (PS τ g)) ∧ (∀ g, LO τ (PS τ g)) ∧ MG τ (aG S) ∧ M0 τ ∧ RB τ 307 0 (aX S) := ⟨PS_any τ, fun g => h.sr PS.sr, fun g => PS.sr.lo, h.1.mg, h.2.2.2.2.2.2.2, h.1⟩
theorem ns176 : notSum 176 := fun k hk => by omega
theorem nb {a : Bool} (h : ¬ a = true) : a = false := by cases a; rfl; exact absurd rfl h
theorem and3 {a b c : Bool} (h : ¬ (a = true ∧ b = true ∧ c = true)) : (a && (b && c)) = false := by
  cases a <;> cases b <;> cases c <;> first | rfl | exact absurd ⟨rfl, rfl, rfl⟩ h
theorem and4 {a b c d : Bool} (h : ¬ (a = true ∧ b = true ∧ c = true ∧ d = true)) : (a && (b && (c && d))) = false := by
  cases a <;> cases b <;> cases c <;> cases d <;> first | rfl | exact absurd ⟨rfl, rfl, rfl, rfl⟩ h
theorem ok_4 : Ok_4 II := by
  intro c σ x y z hc ⟨S, ok, h, hr⟩
  have hG : GOK (aG S) := ok.1.1
  obtain ⟨b, hb, hB⟩ := c_cons h
  unfold f_X10_multiply
  rw [c_areUsable hb, e_bs, c_isReg]
  by_cases hall : isReg x = true ∧ isReg y = true ∧ isReg z = true ∧ b = true
  · obtain ⟨hx, hy, hz, hbt⟩ := hall
    rw [hx, hy, hz, hbt, Bool.and_self, Bool.and_self, if_pos rfl, e_bs, if_pos rfl]
    obtain ⟨r, hr10, rfl⟩ := isReg_idx hx
    obtain ⟨p, hp10, rfl⟩ := isReg_idx hy
    obtain ⟨q, hq10, rfl⟩ := isReg_idx hz
    have hcons := hB.mp hbt
    obtain ⟨σ1, e1, o1, r1⟩ := c_product hG (c_poly h ok hcons) (out := 176) (a := 6 + p) (b := 6 + q) ln_176 (ln_reg hp10) (ln_reg hq10) (c_reg h hp10) (c_reg h hq10) (by omega) ns176 (by omega) (by omega) ((reg_sb ok p).w hG (by omega)) ((reg_sb ok q).w hG (by omega)) (reg_z6 ok p)
    have s1 := o1.sc (fun x hx => by omega)
    obtain ⟨σ2, e2, i2, hi2⟩ := c_keepCounted (h.sc s1) ok r1 ((reg_z6 ok p).muls hG) hr10
    obtain ⟨b3, τ, e3, r3, l3, hc3, _⟩ := r_can ((hr.hi s1.hi).hi hi2) ok (x := i32 r) (y := i32 p) (z := i32 q)
    have : b3 = true := hc3.mpr hcons
    subst this
    rw [hx, hy, hz, Bool.and_self, Bool.and_self, Bool.and_self] at e3
    obtain ⟨⟨f, hf⟩, hI, hL, hM, h0, hRB⟩ := at_slots r3
    obtain ⟨υ, e4, r4, l4⟩ := r_gives (f := uS (uS (uS f 0 (aR S p)) 1 (aR S q)) 0 (mul (aG S) (aR S p) (aR S q))) (hI _) ok hr10 (s := 0) (by omega)
    rw [e_gR ln_5 hp10 (by omega), rf_5 hp10, e_gR ln_5 hq10 (by omega), rf_5 hq10, e1, e_bs, e2, e_bq]
    rw [uS_self] at e4 r4
    refine ⟨_, σ2, υ, rfl, ?_, fin_kept ok EqG.refl i2 r4 ((l3.trans (hL _)).trans l4)⟩
    unfold f_X11_multiply
    rw [e3, e_bq, if_pos rfl, ← hf, i32_0, p_lays (σ := τ) hRB ok (by omega) hp10, e_bs, i32_1, p_lays (σ := τ) hRB ok (by omega) hq10, e_bs, p_times hM hG h0 (by omega) (by omega) (by omega) (by rw [uS_ne (by omega), uS_self]; exact (reg_sb ok p).s30 (by omega)) (by rw [uS_self]; exact (reg_sb ok q).s30 (by omega)), e_bs, uS_self, uS_ne (by omega), uS_self, e4, e_bq]
  · obtain ⟨b3, τ, e3, r3, l3, hc3, _⟩ := r_can hr ok (x := x) (y := y) (z := z)
    have : b3 = b := bool_iff hc3 hB
    subst this
    refine ⟨false, σ, τ, ?_, ?_, fin_q ok h r3 l3⟩
    · by_cases h1 : isReg x = true ∧ isReg y = true ∧ b3 = true
      · rw [h1.1, h1.2.1, h1.2.2, Bool.and_self, Bool.and_self, if_pos rfl, e_bs, nb (fun q => hall ⟨h1.1, h1.2.1, q, h1.2.2⟩), if_neg (by decide)]
      · rw [and3 h1, if_neg (by decide)]
    · unfold f_X11_multiply
      rw [e3, e_bq, and4 hall, if_neg (by decide)]
theorem ok_5 : Ok_5 II := by
  intro c σ x y hc ⟨S, ok, h, hr⟩
  have hG : GOK (aG S) := ok.1.1
  obtain ⟨b, hb, hB⟩ := c_cons h
  unfold f_X10_invert
  rw [c_areUsable hb, e_bs]
  by_cases hall : isReg x = true ∧ isReg y = true ∧ b = true
  · obtain ⟨hx, hy, hbt⟩ := hall
    rw [hx, hy, hbt, Bool.and_self, Bool.and_self, if_pos rfl]
    obtain ⟨r, hr10, rfl⟩ := isReg_idx hx
    obtain ⟨p, hp10, rfl⟩ := isReg_idx hy
    have hcons := hB.mp hbt
    obtain ⟨σ1, e1, o1, r1⟩ := c_inverse hG (c_poly h ok hcons) (out := 176) (a := 6 + p) ln_176 (ln_reg hp10) (c_reg h hp10) (by omega) ns176 (by omega) ((reg_sb ok p).w hG (by omega))
    have s1 := o1.sc (fun x hx => by omega)
    obtain ⟨σ2, e2, i2, hi2⟩ := c_keepCounted (h.sc s1) ok r1 Z6.invs hr10
    obtain ⟨b3, τ, e3, r3, l3, hc3, _⟩ := r_can ((hr.hi s1.hi).hi hi2) ok (x := i32 r) (y := i32 p) (z := i32 p)
    have : b3 = true := hc3.mpr hcons
    subst this
    rw [hx, hy, Bool.and_self, Bool.and_self, Bool.and_self] at e3
    obtain ⟨⟨f, hf⟩, hI, hL, hM, h0, hRB⟩ := at_slots r3
    obtain ⟨g, e5, g5, k5⟩ := p_inverse (σ := τ) (f := uS f 0 (aR S p)) hM hG h0 (s := 0) (t := 1) (by omega) (by omega) (by omega) (by omega) (B := 999) (by omega) (by omega) (by rw [uS_self]; exact reg_sb ok p)
    rw [uS_self] at g5
    obtain ⟨υ, e4, r4, l4⟩ := r_gives (f := g) (hI g) ok hr10 (s := 1) (by omega)
    rw [g5] at e4 r4
    rw [e_gR ln_5 hp10 (by omega), rf_5 hp10, e1, e_bs, e2, e_bq]
    refine ⟨_, σ2, υ, rfl, ?_, fin_kept ok EqG.refl i2 r4 ((l3.trans (hL _)).trans l4)⟩
    unfold f_X11_invert
    rw [e3, e_bq, if_pos rfl, ← hf, i32_0, p_lays (σ := τ) hRB ok (by omega) hp10, e_bs, i32_1, e5, e_bs, e4, e_bq]
  · obtain ⟨b3, τ, e3, r3, l3, hc3, _⟩ := r_can hr ok (x := x) (y := y) (z := y)
    have : b3 = b := bool_iff hc3 hB
    subst this
    refine ⟨false, σ, τ, ?_, ?_, fin_q ok h r3 l3⟩
    · rw [and3 hall, if_neg (by decide)]
    · unfold f_X11_invert
      rw [e3, e_bq, and4 (fun q => hall ⟨q.1, q.2.1, q.2.2.2⟩), if_neg (by decide)]
theorem QZ_eq {A : Nat → Int} {z : Int} : EqG G (QZ G A z) (Q G A z) := fun k hk => by
  unfold QZ
  rw [if_pos hk]
theorem QZ_z6 {A : Nat → Int} {z : Int} : Z6 G (QZ G A z) := fun k h1 _ => by
  unfold QZ
  rw [if_neg (by omega)]
theorem ok_6 : Ok_6 II := by
  intro c σ x y m hc ⟨S, ok, h, hr⟩
  have hG : GOK (aG S) := ok.1.1
  obtain ⟨b, hb, hB⟩ := c_cons h
  have em := fun τ : Mem => r_in (σ := τ) (x := m) (l := -99) (u := 99) ⟨by omega, by omega⟩ ⟨by omega, by omega⟩
  have l99 : m < -99 ↔ m.toInt < -99 := by
    rw [Int32.lt_iff_toInt_lt, show (-99 : Int32).toInt = -99 by decide]
  unfold f_X10_power
  rw [c_areUsable hb, e_bs]
  by_cases hall : isReg x = true ∧ isReg y = true ∧ b = true
  · obtain ⟨hx, hy, hbt⟩ := hall
    have hcons := hB.mp hbt
    rw [hx, hy, hbt, Bool.and_self, Bool.and_self, if_pos rfl]
    obtain ⟨r, hr10, rfl⟩ := isReg_idx hx
    obtain ⟨p, hp10, rfl⟩ := isReg_idx hy
    by_cases hm : -99 ≤ m.toInt ∧ m.toInt ≤ 99
    · rw [if_neg (fun q => by have := l99.mp q; omega), if_pos (show m ≤ 99 from (le32 (k := 99) (by omega)).mpr (by omega))]
      obtain ⟨σ1, e1, o1, r1⟩ := c_raise hG (c_poly h ok hcons) (out := 176) (a := 6 + p) (m := m.toInt64) (z := m.toInt) ln_176 (ln_reg hp10) (c_reg h hp10) (by omega) to64 (by omega) (M := 999) (by omega) (by omega) (reg_sb ok p) (reg_z6 ok p)
      have s1 := o1.sc (fun x hx => by omega)
      obtain ⟨σ2, e2, i2, hi2⟩ := c_keepCounted (h.sc s1) ok r1 QZ_z6 hr10
      obtain ⟨b3, τ, e3, r3, l3, hc3, _⟩ := r_can ((hr.hi s1.hi).hi hi2) ok (x := i32 r) (y := i32 p) (z := i32 p)
      have : b3 = true := hc3.mpr hcons
      subst this
      rw [hx, hy, Bool.and_self, Bool.and_self, Bool.and_self] at e3
      obtain ⟨⟨f, hf⟩, hI, hL, hM, h0, hRB⟩ := at_slots r3
      obtain ⟨g, e5, g5, k5⟩ := p_raises (σ := τ) (f := uS f 0 (aR S p)) hM hG h0 (s := 0) (t := 1) (m := m) (z := m.toInt) (by omega) (by omega) (by omega) rfl hm (B := 999) (by omega) (by omega) (by rw [uS_self]; exact reg_sb ok p)
      rw [uS_self] at g5
      obtain ⟨υ, e4, r4, l4⟩ := r_gives (f := g) (hI g) ok hr10 (s := 1) (by omega)
      rw [g5] at e4 r4
      rw [e_gR ln_5 hp10 (by omega), rf_5 hp10, e1, e_bs, e2, e_bq]
      have hE : EqG (aG S) (QZ (aG S) (aR S p) m.toInt) (pw (aG S) (if m.toInt < 0 then inv (aG S) (aR S p) else aR S p) m.toInt.natAbs) := QZ_eq.trans (raises_Q hG (Cons.jac hG hcons)).symm
      refine ⟨isEl (aG S) (QZ (aG S) (aR S p) m.toInt), σ2, υ, rfl, ?_, fin_kept ok hE i2 r4 ((l3.trans (hL _)).trans l4)⟩
      unfold f_X11_power
      rw [e3, e_bq, if_pos rfl, show (-99 : Int64) = oi (-99) from rfl, show (99 : Int64) = oi 99 from rfl, em, e_bs, decide_eq_true hm, if_pos rfl, ← hf, i32_0, p_lays (σ := τ) hRB ok (by omega) hp10, e_bs, i32_1, e5, e_bs, e4, e_bq, isEl_congr hE]
    · obtain ⟨b3, τ, e3, r3, l3, hc3, _⟩ := r_can hr ok (x := i32 r) (y := i32 p) (z := i32 p)
      have : b3 = true := hc3.mpr hcons
      subst this
      rw [hx, hy, Bool.and_self, Bool.and_self, Bool.and_self] at e3
      refine ⟨false, σ, τ, ?_, ?_, fin_q ok h r3 l3⟩
      · by_cases h1 : m < -99
        · rw [if_pos h1]
        · have h1' : ¬ m.toInt < -99 := fun q => h1 (l99.mpr q)
          rw [if_neg h1, if_neg (fun q => by have := (le32 (k := 99) (by omega)).mp q; omega)]
      · unfold f_X11_power
        rw [e3, e_bq, if_pos rfl, show (-99 : Int64) = oi (-99) from rfl, show (99 : Int64) = oi 99 from rfl, em, e_bs, decide_eq_false hm, if_neg (by decide)]
  · obtain ⟨b3, τ, e3, r3, l3, hc3, _⟩ := r_can hr ok (x := x) (y := y) (z := y)
    have : b3 = b := bool_iff hc3 hB
    subst this
    refine ⟨false, σ, τ, ?_, ?_, fin_q ok h r3 l3⟩
    · rw [and3 hall, if_neg (by decide)]
    · unfold f_X11_power
      rw [e3, e_bq, and4 (fun q => hall ⟨q.1, q.2.1, q.2.2.2⟩), if_neg (by decide)]
theorem ok_7 : Ok_7 II := by
  intro c σ x y z hc ⟨S, ok, h, hr⟩
  have hG : GOK (aG S) := ok.1.1
  obtain ⟨b, hb, hB⟩ := c_cons h
  unfold f_X10_commute
  rw [c_areUsable hb, e_bs, c_isReg]
  by_cases hall : isReg x = true ∧ isReg y = true ∧ isReg z = true ∧ b = true
  · obtain ⟨hx, hy, hz, hbt⟩ := hall
    rw [hx, hy, hz, hbt, Bool.and_self, Bool.and_self, if_pos rfl, e_bs, if_pos rfl]
    obtain ⟨r, hr10, rfl⟩ := isReg_idx hx
    obtain ⟨p, hp10, rfl⟩ := isReg_idx hy
    obtain ⟨q, hq10, rfl⟩ := isReg_idx hz
    have hcons := hB.mp hbt
    obtain ⟨σ1, e1, o1, r1⟩ := c_commutator hG (c_poly h ok hcons) (out := 176) (a := 6 + p) (b := 6 + q) ln_176 (ln_reg hp10) (ln_reg hq10) (c_reg h hp10) (c_reg h hq10) (by omega) (by omega) ns176 (by omega) (by omega) (M := 999) (by omega) (by omega) (reg_sb ok p) (reg_sb ok q) (reg_z6 ok p) (reg_z6 ok q)
    have s1 := o1.sc (fun x hx => by omega)
    obtain ⟨σ2, e2, i2, hi2⟩ := c_keepCounted (h.sc s1) ok r1 (Z6.muls hG Z6.invs) hr10
    obtain ⟨b3, τ, e3, r3, l3, hc3, _⟩ := r_can ((hr.hi s1.hi).hi hi2) ok (x := i32 r) (y := i32 p) (z := i32 q)
    have : b3 = true := hc3.mpr hcons
    subst this
    rw [hx, hy, hz, Bool.and_self, Bool.and_self, Bool.and_self] at e3
    obtain ⟨⟨f, hf⟩, hI, hL, hM, h0, hRB⟩ := at_slots r3
    obtain ⟨g, e5, g5, k5⟩ := p_commutator (σ := τ) (f := uS (uS f 0 (aR S p)) 1 (aR S q)) hM hG h0 (s := 0) (r := 1) (t := 2) (by omega) (by omega) (by omega) (by omega) (by omega) (B := 999) (by omega) (by omega) (by rw [uS_ne (by omega), uS_self]; exact reg_sb ok p) (by rw [uS_self]; exact reg_sb ok q)
    rw [uS_self, uS_ne (by omega), uS_self] at g5
    obtain ⟨υ, e4, r4, l4⟩ := r_gives (f := g) (hI g) ok hr10 (s := 2) (by omega)
    rw [g5] at e4 r4
    have hE := comm_eq hG (Cons.jac hG hcons) (a := aR S p) (b := aR S q)
    rw [e_gR ln_5 hp10 (by omega), rf_5 hp10, e_gR ln_5 hq10 (by omega), rf_5 hq10, e1, e_bs, e2, e_bq]
    refine ⟨_, σ2, υ, rfl, ?_, fin_kept ok hE i2 r4 ((l3.trans (hL _)).trans l4)⟩
    unfold f_X11_commute
    rw [e3, e_bq, if_pos rfl, ← hf, i32_0, p_lays (σ := τ) hRB ok (by omega) hp10, e_bs, i32_1, p_lays (σ := τ) hRB ok (by omega) hq10, e_bs, i32_2, e5, e_bs, e4, e_bq, isEl_congr hE]
  · obtain ⟨b3, τ, e3, r3, l3, hc3, _⟩ := r_can hr ok (x := x) (y := y) (z := z)
    have : b3 = b := bool_iff hc3 hB
    subst this
    refine ⟨false, σ, τ, ?_, ?_, fin_q ok h r3 l3⟩
    · by_cases h1 : isReg x = true ∧ isReg y = true ∧ b3 = true
      · rw [h1.1, h1.2.1, h1.2.2, Bool.and_self, Bool.and_self, if_pos rfl, e_bs, nb (fun q => hall ⟨h1.1, h1.2.1, q, h1.2.2⟩), if_neg (by decide)]
      · rw [and3 h1, if_neg (by decide)]
    · unfold f_X11_commute
      rw [e3, e_bq, and4 hall, if_neg (by decide)]
theorem ok_8 : Ok_8 II := by
  intro c σ x y z hc ⟨S, ok, h, hr⟩
  have hG : GOK (aG S) := ok.1.1
  obtain ⟨b, hb, hB⟩ := c_cons h
  unfold f_X10_conjugate
  rw [c_areUsable hb, e_bs, c_isReg]
  by_cases hall : isReg x = true ∧ isReg y = true ∧ isReg z = true ∧ b = true
  · obtain ⟨hx, hy, hz, hbt⟩ := hall
    rw [hx, hy, hz, hbt, Bool.and_self, Bool.and_self, if_pos rfl, e_bs, if_pos rfl]
    obtain ⟨r, hr10, rfl⟩ := isReg_idx hx
    obtain ⟨p, hp10, rfl⟩ := isReg_idx hy
    obtain ⟨q, hq10, rfl⟩ := isReg_idx hz
    have hcons := hB.mp hbt
    obtain ⟨σ1, e1, o1, r1⟩ := c_conjugated hG (c_poly h ok hcons) (out := 176) (a := 6 + p) (u := 6 + q) ln_176 (ln_reg hp10) (ln_reg hq10) (c_reg h hp10) (c_reg h hq10) (by omega) (by omega) ns176 (by omega) (by omega) (M := 999) (by omega) (by omega) (reg_sb ok p) (reg_sb ok q) (reg_z6 ok p)
    have s1 := o1.sc (fun x hx => by omega)
    obtain ⟨σ2, e2, i2, hi2⟩ := c_keepCounted (h.sc s1) ok r1 (Z6.muls hG Z6.invs) hr10
    obtain ⟨b3, τ, e3, r3, l3, hc3, _⟩ := r_can ((hr.hi s1.hi).hi hi2) ok (x := i32 r) (y := i32 p) (z := i32 q)
    have : b3 = true := hc3.mpr hcons
    subst this
    rw [hx, hy, hz, Bool.and_self, Bool.and_self, Bool.and_self] at e3
    obtain ⟨⟨f, hf⟩, hI, hL, hM, h0, hRB⟩ := at_slots r3
    obtain ⟨g, e5, g5, k5⟩ := p_conjugates (σ := τ) (f := uS (uS f 0 (aR S p)) 1 (aR S q)) hM hG h0 (s := 0) (r := 1) (t := 2) (by omega) (by omega) (by omega) (by omega) (by omega) (B := 999) (by omega) (by omega) (by rw [uS_ne (by omega), uS_self]; exact reg_sb ok p) (by rw [uS_self]; exact reg_sb ok q)
    rw [uS_self, uS_ne (by omega), uS_self] at g5
    obtain ⟨υ, e4, r4, l4⟩ := r_gives (f := g) (hI g) ok hr10 (s := 2) (by omega)
    rw [g5] at e4 r4
    have hE := conj_eq hG (Cons.jac hG hcons) (a := aR S p) (u := aR S q)
    rw [e_gR ln_5 hp10 (by omega), rf_5 hp10, e_gR ln_5 hq10 (by omega), rf_5 hq10, e1, e_bs, e2, e_bq]
    refine ⟨_, σ2, υ, rfl, ?_, fin_kept ok hE i2 r4 ((l3.trans (hL _)).trans l4)⟩
    unfold f_X11_conjugate
    rw [e3, e_bq, if_pos rfl, ← hf, i32_0, p_lays (σ := τ) hRB ok (by omega) hp10, e_bs, i32_1, p_lays (σ := τ) hRB ok (by omega) hq10, e_bs, i32_2, e5, e_bs, e4, e_bq, isEl_congr hE]
  · obtain ⟨b3, τ, e3, r3, l3, hc3, _⟩ := r_can hr ok (x := x) (y := y) (z := z)
    have : b3 = b := bool_iff hc3 hB
    subst this
    refine ⟨false, σ, τ, ?_, ?_, fin_q ok h r3 l3⟩
    · by_cases h1 : isReg x = true ∧ isReg y = true ∧ b3 = true
      · rw [h1.1, h1.2.1, h1.2.2, Bool.and_self, Bool.and_self, if_pos rfl, e_bs, nb (fun q => hall ⟨h1.1, h1.2.1, q, h1.2.2⟩), if_neg (by decide)]
      · rw [and3 h1, if_neg (by decide)]
    · unfold f_X11_conjugate
      rw [e3, e_bq, and4 hall, if_neg (by decide)]
end MLT
