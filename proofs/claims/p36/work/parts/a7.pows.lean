/-! powers, associates, both: the calls -/
section PWS
variable {σ : Mem} {G : GD}
/-- what a power's number is, as sums with signs -/
theorem pow_sum {k : Nat} {A : Nat → Int} : ∀ i, i ≤ 3 → sm (fun m => sg i m * Q G A m k) (i + 1) = if i = 0 then 0 else if i = 1 then A k else if i = 2 then al G A k else be G A k := by
  have t0 : two 0 = 0 := rfl
  have t1 : two 1 = 0 := rfl
  have t2 : two 2 = 1 := rfl
  have t3 : two 3 = 3 := rfl
  have h0 : three 0 = 0 := rfl
  have h1 : three 1 = 0 := rfl
  have h2 : three 2 = 0 := rfl
  have h3 : three 3 = 1 := rfl
  have q0 : Q G A ((0 : Nat) : Int) k = 0 := Q_0
  have q1 : Q G A ((1 : Nat) : Int) k = A k := Q_1
  have q2 : Q G A ((2 : Nat) : Int) k = A k * 2 + al G A k := by
    show A k * 2 + al G A k * two 2 + be G A k * three 2 = _
    rw [t2, h2]; omega
  have q3 : Q G A ((3 : Nat) : Int) k = A k * 3 + al G A k * 3 + be G A k := by
    show A k * 3 + al G A k * two 3 + be G A k * three 3 = _
    rw [t3, h3]; omega
  intro i hi
  rcases (show i = 0 ∨ i = 1 ∨ i = 2 ∨ i = 3 by omega) with z | z | z | z
  · subst z
    rw [if_pos rfl]
    show 0 + sg 0 0 * Q G A ((0 : Nat) : Int) k = 0
    rw [q0]; simp
  · subst z
    rw [if_neg (by omega), if_pos rfl]
    show 0 + sg 1 0 * Q G A ((0 : Nat) : Int) k + sg 1 1 * Q G A ((1 : Nat) : Int) k = A k
    rw [q0, q1, show sg 1 1 = 1 from by decide]
    omega
  · subst z
    rw [if_neg (by omega), if_neg (by omega), if_pos rfl]
    show 0 + sg 2 0 * Q G A ((0 : Nat) : Int) k + sg 2 1 * Q G A ((1 : Nat) : Int) k + sg 2 2 * Q G A ((2 : Nat) : Int) k = al G A k
    rw [q0, q1, q2, show sg 2 1 = -2 from by decide, show sg 2 2 = 1 from by decide]
    omega
  · subst z
    rw [if_neg (by omega), if_neg (by omega), if_neg (by omega)]
    show 0 + sg 3 0 * Q G A ((0 : Nat) : Int) k + sg 3 1 * Q G A ((1 : Nat) : Int) k + sg 3 2 * Q G A ((2 : Nat) : Int) k + sg 3 3 * Q G A ((3 : Nat) : Int) k = be G A k
    rw [q0, q1, q2, q3, show sg 3 1 = 3 from by decide, show sg 3 2 = -3 from by decide, show sg 3 3 = 1 from by decide]
    omega
theorem c_powNum (hG : GOK G) {k i : Nat} (hk : k < gn G) (hi : i ≤ 3) {A : Nat → Int} (h1 : H6 σ 75 A) (h2 : H6 σ 76 (mul G A A)) (h3 : H6 σ 77 (mul G (mul G A A) A)) : f_X0_powerNumber σ (i32 k) (i32 i) = some (oi (if i = 0 then 0 else if i = 1 then A k else if i = 2 then al G A k else be G A k)) := by
  have hn := hG.2.1
  have hq := Q_numbers hG (a := A) hk
  have n0 : ¬ i32 k < 0 := by rw [i32_0]; exact i_nlt (Nat.zero_le _) (by omega)
  have n6 : i32 k < 6 := by rw [i32_6]; exact i_lt (by omega) (by omega)
  unfold f_X0_powerNumber
  rw [if_neg n0, if_pos n6]
  rcases (show i = 0 ∨ i = 1 ∨ i = 2 ∨ i = 3 by omega) with z | z | z | z
  · subst z
    rw [if_neg (by decide), if_neg (by decide), if_neg (by decide), if_pos rfl]; rfl
  · subst z
    rw [if_pos (by decide), e_gL ln_75 (by omega) (by omega), h1 k (by omega), if_neg (by omega), if_pos rfl]
  · subst z
    rw [if_neg (by decide), if_pos (by decide), e_gL ln_76 (by omega) (by omega), e_gL ln_75 (by omega) (by omega), h1 k (by omega), h2 k (by omega), if_neg (by omega), if_neg (by omega), if_pos rfl, ← hq.1, ← oi_sub, ← oi_mul]
    rfl
  · subst z
    rw [if_neg (by decide), if_neg (by decide), if_pos (by decide), e_gL ln_77 (by omega) (by omega), e_gL ln_76 (by omega) (by omega), e_gL ln_75 (by omega) (by omega), h1 k (by omega), h2 k (by omega), h3 k (by omega), if_neg (by omega), if_neg (by omega), if_neg (by omega), ← hq.2, ← oi_add, ← oi_sub, ← oi_mul, ← oi_mul]
    rfl
theorem ok_27 : Ok_27 II := by
  intro c σ x y w hc ⟨S, ok, h, hr⟩
  have hG : GOK (aG S) := ok.1.1
  have hn : gn (aG S) ≤ 6 := hG.2.1
  obtain ⟨b, hb, hB⟩ := c_cons h
  have ew := fun τ : Mem => r_in (σ := τ) (x := w) (l := 0) (u := 3) ⟨by omega, by omega⟩ ⟨by omega, by omega⟩
  have f0 : LO σ (wI σ 306 0 0) := LO.row (by omega)
  unfold f_X10_powers
  rw [c_isReg, e_bs]
  cases hx : isReg x with
  | false =>
    rw [if_neg (by decide)]
    refine ⟨_, σ, _, rfl, ?_, fin_q ok h hr.told f0⟩
    unfold f_X11_powers
    rw [e_pF, r_isReg, e_bs, hx, if_neg (by decide)]
  | true =>
    obtain ⟨r, hr10, rfl⟩ := isReg_idx hx
    rw [if_pos rfl, c_isGen h.1.1.1 hn, e_bs]
    by_cases hall : isGen (gn (aG S)) y = true ∧ (0 ≤ w.toInt ∧ w.toInt ≤ 3) ∧ b = true
    · obtain ⟨hy, hw, hbt⟩ := hall
      have hcons := hB.mp hbt
      rw [hy, if_pos rfl, if_neg (fun q => by have := (lt32 (k := 0) (by omega)).mp q; omega), if_neg (fun q => by have := (gt32 (k := 3) (by omega)).mp q; omega), e_gZ hb, hbt, if_pos rfl]
      obtain ⟨k, hk, rfl, hk1⟩ := isGen_idx hy
      have hwi := i32_of hw.1
      have hi3 : w.toInt.toNat ≤ 3 := by omega
      obtain ⟨σ1, e1, o1, r1, r2, r3⟩ := c_findPowers hG (c_poly h ok hcons) (a := 6 + r) (ln_reg hr10) (c_reg h hr10) (M := 999) (by omega) (by omega) (reg_sb ok r) (reg_z6 ok r)
      have s1 := o1.sc (fun x hx => by omega)
      have e2 := c_powNum hG hk hi3 r1 r2 r3
      rw [← hwi] at e2
      obtain ⟨b3, τ, e3, q3, l3, _, _, hc3⟩ := r_cons (hr.hi s1.hi).told ok
      have : b3 = true := hc3.mpr hcons
      subst this
      obtain ⟨⟨f, hf⟩, hI, hL, hM, h0, hRB⟩ := at_slots q3
      have e4 : f_X11_laysRegister τ 0 (i32 r) = some (PS τ (uS f 0 (aR S r))) := by
        have := p_lays (σ := τ) (f := f) hRB ok (s := 0) (by omega) hr10
        rw [hf] at this
        exact this
      have f1 : LO σ1 (wI σ1 306 0 0) := LO.row (by omega)
      rw [e_gR ln_5 hr10 (by omega), rf_5 hr10, e1, e_bs, hk1, e2, e_bs]
      -- the reference's loop
      have hl := loop_inv (body := fun (z11 : (Mem × Int64 × Int32)) => l_X11_powers_64 (i32 (k + 1)) (i32 w.toInt.toNat) z11.1 z11.2.1 z11.2.2) (fun n z => ∃ m g, m ≤ w.toInt.toNat + 1 ∧ n = w.toInt.toNat + 1 - m ∧ z = (PS τ g, oi (sm (fun m => sg w.toInt.toNat m * Q (aG S) (aR S r) m k) m), i32 m) ∧ g 0 = aR S r) (fun q => ∃ g, q = (oi (sm (fun m => sg w.toInt.toNat m * Q (aG S) (aR S r) m k) (w.toInt.toNat + 1)), PS τ g)) ?_ (w.toInt.toNat + 1) (PS τ (uS f 0 (aR S r)), 0, 0) ⟨0, uS f 0 (aR S r), by omega, rfl, rfl, uS_self⟩
      · obtain ⟨q, e5, g, rfl⟩ := hl
        rw [pow_sum w.toInt.toNat hi3] at e5
        refine ⟨_, σ1, PS τ g, rfl, ?_, fin_q ok (h.sc s1) (hI g) (f1.trans (l3.trans (hL _)))⟩
        unfold f_X11_powers
        rw [e_pF, r_isReg, e_bs, hx, if_pos rfl, e3, e_bq, if_pos rfl, e_n hM, e_bs, r_isGen hn, e_bs, hy, if_pos rfl, show (0 : Int64) = oi 0 from rfl, show (3 : Int64) = oi 3 from rfl, ew, e_bs, decide_eq_true hw, if_pos rfl, e4, e_bs]
        rw [← hwi] at e5
        exact e5
      · rintro n z ⟨m, g, hm, rfl, rfl, hg⟩
        by_cases hmi : m = w.toInt.toNat + 1
        · right
          subst hmi
          refine ⟨_, ?_, g, rfl⟩
          show l_X11_powers_64 _ _ (PS τ g) _ (i32 (w.toInt.toNat + 1)) = _
          unfold l_X11_powers_64
          rw [if_pos (i_lt (by omega) (by omega))]
        · left
          obtain ⟨g2, e5, g5, k5⟩ := p_raises (σ := τ) (f := g) hM hG h0 (s := 0) (t := 1) (m := i32 m) (z := (m : Int)) (by omega) (by omega) (by omega) (i32_toInt (by omega)) (by omega) (B := 999) (by omega) (by omega) (by rw [hg]; exact reg_sb ok r)
          rw [hg, if_neg (show ¬ (m : Int) < 0 by omega), Int.natAbs_natCast] at g5
          refine ⟨(PS τ g2, oi (sm (fun m => sg w.toInt.toNat m * Q (aG S) (aR S r) m k) (m + 1)), i32 (m + 1)), w.toInt.toNat + 1 - (m + 1), by omega, ?_, m + 1, g2, by omega, rfl, rfl, by rw [k5 0 (by omega), hg]⟩
          show l_X11_powers_64 (i32 (k + 1)) (i32 w.toInt.toNat) (PS τ g) _ (i32 m) = _
          unfold l_X11_powers_64
          have e5' : f_X11_raises (PS τ g) 0 1 (i32 m) = some (PS τ g2) := e5
          rw [if_neg (i_nlt (by omega) (by omega)), e5', e_bs, e_nzI (by decide), r_sign hi3 (by omega) (by omega), e_bs]
          unfold j_X11_powers_96
          have e6 : f_X11_of (PS τ g2) 1 (i32 k) = some (oi (g2 1 k)) := p_of (s := 1) (by omega) (by omega)
          rw [r_choose hi3 (by omega), e_bs, hk1, e6, e_bs, e_bd, i32_1, i32_add, g5, pw_Q hG m k hk]
          congr 4
          show oi (sm _ m) + _ = oi (sm _ m + sg w.toInt.toNat m * Q (aG S) (aR S r) m k)
          rw [← oi_add]
          congr 1
          unfold sg
          rw [← oi_mul, ← oi_mul, Int64.mul_comm (oi _) (oi _)]
    · -- refused
      obtain ⟨b3, τ, e3, q3, l3, _, _, hc3⟩ := r_cons hr.told ok
      have hbb : b3 = b := bool_iff hc3 hB
      subst hbb
      refine ⟨-100000000000000, σ, τ, ?_, ?_, fin_q ok h q3 (f0.trans l3)⟩
      · cases hy : isGen (gn (aG S)) y with
        | false => rw [if_neg (by decide)]
        | true =>
          rw [if_pos rfl]
          by_cases h1 : w < 0
          · rw [if_pos h1]
          · have h1' : ¬ w.toInt < 0 := fun q => h1 ((lt32 (k := 0) (by omega)).mpr q)
            rw [if_neg h1]
            by_cases h2 : 3 < w
            · rw [if_pos h2]
            · have h2' : ¬ (3 : Int) < w.toInt := fun q => h2 ((gt32 (k := 3) (by omega)).mpr q)
              rw [if_neg h2, e_gZ hb, nb (fun q => hall ⟨hy, by omega, q⟩), if_neg (by decide)]
      · unfold f_X11_powers
        rw [e_pF, r_isReg, e_bs, hx, if_pos rfl, e3, e_bq]
        cases hbt : b3 with
        | false => rw [if_neg (by decide)]
        | true =>
          rw [if_pos rfl, e_n q3.1.mg, e_bs, r_isGen hn, e_bs]
          cases hy : isGen (gn (aG S)) y with
          | false => rw [if_neg (by decide)]
          | true =>
            rw [if_pos rfl, show (0 : Int64) = oi 0 from rfl, show (3 : Int64) = oi 3 from rfl, ew, e_bs, decide_eq_false (fun q => hall ⟨hy, q, hbt⟩), if_neg (by decide)]
theorem ok_28 : Ok_28 II := by
  intro c σ x y z hc ⟨S, ok, h, hr⟩
  have hG : GOK (aG S) := ok.1.1
  obtain ⟨b, hb, hB⟩ := c_cons h
  have f0 : LO σ (wI σ 306 0 0) := LO.row (by omega)
  unfold f_X10_associates
  rw [c_areUsable hb, e_bs, c_isReg]
  by_cases hall : isReg x = true ∧ isReg y = true ∧ isReg z = true ∧ b = true
  · obtain ⟨hx, hy, hz, hbt⟩ := hall
    rw [hx, hy, hz, hbt, Bool.and_self, Bool.and_self, if_pos rfl, e_bs, if_pos rfl]
    obtain ⟨p, hp, rfl⟩ := isReg_idx hx
    obtain ⟨q, hq, rfl⟩ := isReg_idx hy
    obtain ⟨r, hr10, rfl⟩ := isReg_idx hz
    have hcons := hB.mp hbt
    have hJ := Cons.jac hG hcons
    have P0 := c_poly h ok hcons
    have n177 : notSum 177 := fun k hk => by omega
    have n73 : notSum 73 := fun k hk => by omega
    have sp := reg_sb ok p
    have sq := reg_sb ok q
    have sr := reg_sb ok r
    obtain ⟨σ1, e1, o1, r1⟩ := c_product hG P0 (out := 176) (a := 6 + p) (b := 6 + q) ln_176 (ln_reg hp) (ln_reg hq) (c_reg h hp) (c_reg h hq) (by omega) ns176 (by omega) (by omega) (sp.w hG (by omega)) (sq.w hG (by omega)) (reg_z6 ok p)
    have s1 := o1.sc (fun x hx => by omega)
    have h1 := h.sc s1
    obtain ⟨σ2, e2, o2, r2⟩ := c_product hG (c_poly h1 ok hcons) (out := 176) (a := 176) (b := 6 + r) ln_176 ln_176 (ln_reg hr10) r1 (c_reg h1 hr10) (by omega) ns176 (by omega) (by omega) ((sp.mul hG sq).w hG (by omega)) (sr.w hG (by omega)) ((reg_z6 ok p).muls hG)
    have s2 := o2.sc (fun x hx => by omega)
    have h2 := h1.sc s2
    obtain ⟨σ3, e3, o3', r3⟩ := c_product hG (c_poly h2 ok hcons) (out := 177) (a := 6 + q) (b := 6 + r) ln_177 (ln_reg hq) (ln_reg hr10) (c_reg h2 hq) (c_reg h2 hr10) (by omega) n177 (by omega) (by omega) (sq.w hG (by omega)) (sr.w hG (by omega)) (reg_z6 ok q)
    have s3 := o3'.sc (fun x hx => by omega)
    have h3 := h2.sc s3
    obtain ⟨σ4, e4, o4, r4⟩ := c_product hG (c_poly h3 ok hcons) (out := 177) (a := 6 + p) (b := 177) ln_177 (ln_reg hp) ln_177 (c_reg h3 hp) r3 (by omega) n177 (by omega) (by omega) (sp.w hG (by omega)) ((sq.mul hG sr).w hG (by omega)) (reg_z6 ok p)
    have s4 := o4.sc (fun x hx => by omega)
    have h4 := h3.sc s4
    have r2' : H6 σ4 176 (mul (aG S) (mul (aG S) (aR S p) (aR S q)) (aR S r)) := (r2.keep o3' (by omega)).keep o4 (by omega)
    have hA := massoc hG hJ (a := aR S p) (b := aR S q) (c := aR S r)
    have e5 := c_same hG ln_176 ln_177 r2' r4 (((reg_z6 ok p).muls hG).muls hG) ((reg_z6 ok p).muls hG)
    rw [areS_eq hA] at e5
    have H4 : HI σ σ4 := s1.hi.trans (s2.hi.trans (s3.hi.trans s4.hi))
    obtain ⟨b3, τ, e6, q6, l6, _, _, hc6⟩ := r_cons (hr.hi H4).told ok
    have : b3 = true := hc6.mpr hcons
    subst this
    obtain ⟨⟨f, hf⟩, hI, hL, hM, h0, hRB⟩ := at_slots q6
    have f4 : LO σ4 (wI σ4 306 0 0) := LO.row (by omega)
    rw [e_gR ln_5 hp (by omega), rf_5 hp, e_gR ln_5 hq (by omega), rf_5 hq, e1, e_bs, e_gR ln_5 hr10 (by omega), rf_5 hr10, e2, e_bs, e_gR ln_5 hq (by omega), rf_5 hq, e_gR ln_5 hr10 (by omega), rf_5 hr10, e3, e_bs, e_gR ln_5 hp (by omega), rf_5 hp, e4, e_bs, e5, e_bs]
    have key : ∃ g, (f_X11_laysRegister τ 0 (i32 p)).bind (fun (σ7 : Mem) => (f_X11_laysRegister σ7 1 (i32 q)).bind (fun (σ8 : Mem) => (f_X11_laysRegister σ8 2 (i32 r)).bind (fun (σ9 : Mem) => (f_X11_copies σ9 0 3).bind (fun (σ10 : Mem) => (f_X11_times σ10 3 1).bind (fun (σ11 : Mem) => (f_X11_times σ11 3 2).bind (fun (σ12 : Mem) => (f_X11_copies σ12 1 4).bind (fun (σ13 : Mem) => (f_X11_times σ13 4 2).bind (fun (σ14 : Mem) => (f_X11_times σ14 0 4).bind (fun (σ15 : Mem) => (f_X11_areSame σ15 0 3).bind (fun (b16 : Bool) => if b16 then some ((1 : Int32), σ15) else some (0, σ15))))))))))) = some (1, PS τ g) := by
      let f1 := uS f 0 (aR S p)
      let f2 := uS f1 1 (aR S q)
      let f3 := uS f2 2 (aR S r)
      let f4 := uS f3 3 (f3 0)
      let f5 := uS f4 3 (mul (aG S) (f4 3) (f4 1))
      let f6 := uS f5 3 (mul (aG S) (f5 3) (f5 2))
      let f7 := uS f6 4 (f6 1)
      let f8 := uS f7 4 (mul (aG S) (f7 4) (f7 2))
      let f9 := uS f8 0 (mul (aG S) (f8 0) (f8 4))
      have a1 : f_X11_laysRegister τ 0 (i32 p) = some (PS τ f1) := by
        have := p_lays (σ := τ) (f := f) hRB ok (s := 0) (by omega) hp
        rw [hf] at this
        exact this
      have a2 : f_X11_laysRegister (PS τ f1) 1 (i32 q) = some (PS τ f2) := p_lays (σ := τ) (f := f1) hRB ok (s := 1) (by omega) hq
      have a3 : f_X11_laysRegister (PS τ f2) 2 (i32 r) = some (PS τ f3) := p_lays (σ := τ) (f := f2) hRB ok (s := 2) (by omega) hr10
      have v30 : f3 0 = aR S p := (uS_ne (by omega)).trans ((uS_ne (by omega)).trans (uS_self))
      have v31 : f3 1 = aR S q := (uS_ne (by omega)).trans (uS_self)
      have v32 : f3 2 = aR S r := uS_self
      have a4 : f_X11_copies (PS τ f3) 0 3 = some (PS τ f4) := p_copies (σ := τ) (f := f3) (s := 0) (r := 3) (by omega) (by omega) (by omega)
      have v43 : f4 3 = aR S p := uS_self.trans (v30)
      have v41 : f4 1 = aR S q := (uS_ne (by omega)).trans (v31)
      have a5 : f_X11_times (PS τ f4) 3 1 = some (PS τ f5) := p_times (σ := τ) (f := f4) hM hG h0 (s := 3) (r := 1) (by omega) (by omega) (by omega) (by rw [v43]; exact sp.s30 (by omega)) (by rw [v41]; exact sq.s30 (by omega))
      have v53 : f5 3 = mul (aG S) (aR S p) (aR S q) := uS_self.trans (by rw [v43, v41])
      have v52 : f5 2 = aR S r := (uS_ne (by omega)).trans ((uS_ne (by omega)).trans (v32))
      have a6 : f_X11_times (PS τ f5) 3 2 = some (PS τ f6) := p_times (σ := τ) (f := f5) hM hG h0 (s := 3) (r := 2) (by omega) (by omega) (by omega) (by rw [v53]; exact (sp.mul hG sq).s30 (by omega)) (by rw [v52]; exact sr.s30 (by omega))
      have v63 : f6 3 = mul (aG S) (mul (aG S) (aR S p) (aR S q)) (aR S r) := uS_self.trans (by rw [v53, v52])
      have v61 : f6 1 = aR S q := (uS_ne (by omega)).trans ((uS_ne (by omega)).trans (v41))
      have v62 : f6 2 = aR S r := (uS_ne (by omega)).trans (v52)
      have v60 : f6 0 = aR S p := (uS_ne (by omega)).trans ((uS_ne (by omega)).trans ((uS_ne (by omega)).trans (v30)))
      have a7 : f_X11_copies (PS τ f6) 1 4 = some (PS τ f7) := p_copies (σ := τ) (f := f6) (s := 1) (r := 4) (by omega) (by omega) (by omega)
      have v74 : f7 4 = aR S q := uS_self.trans (v61)
      have v72 : f7 2 = aR S r := (uS_ne (by omega)).trans (v62)
      have a8 : f_X11_times (PS τ f7) 4 2 = some (PS τ f8) := p_times (σ := τ) (f := f7) hM hG h0 (s := 4) (r := 2) (by omega) (by omega) (by omega) (by rw [v74]; exact sq.s30 (by omega)) (by rw [v72]; exact sr.s30 (by omega))
      have v84 : f8 4 = mul (aG S) (aR S q) (aR S r) := uS_self.trans (by rw [v74, v72])
      have v80 : f8 0 = aR S p := (uS_ne (by omega)).trans ((uS_ne (by omega)).trans (v60))
      have v83 : f8 3 = mul (aG S) (mul (aG S) (aR S p) (aR S q)) (aR S r) := (uS_ne (by omega)).trans ((uS_ne (by omega)).trans (v63))
      have a9 : f_X11_times (PS τ f8) 0 4 = some (PS τ f9) := p_times (σ := τ) (f := f8) hM hG h0 (s := 0) (r := 4) (by omega) (by omega) (by omega) (by rw [v80]; exact sp.s30 (by omega)) (by rw [v84]; exact (sq.mul hG sr).s30 (by omega))
      have v90 : f9 0 = mul (aG S) (aR S p) (mul (aG S) (aR S q) (aR S r)) := uS_self.trans (by rw [v80, v84])
      have v93 : f9 3 = mul (aG S) (mul (aG S) (aR S p) (aR S q)) (aR S r) := (uS_ne (by omega)).trans (v83)
      have a10 : f_X11_areSame (PS τ f9) 0 3 = some (areS (aG S) (f9 0) (f9 3)) := p_areSame (σ := τ) (f := f9) hM hG (s := 0) (r := 3) (by omega) (by omega)
      rw [v90, v93, areS_eq hA.symm] at a10
      exact ⟨f9, by rw [a1, e_bs, a2, e_bs, a3, e_bs, a4, e_bs, a5, e_bs, a6, e_bs, a7, e_bs, a8, e_bs, a9, e_bs, a10, e_bs, if_pos rfl]⟩
    obtain ⟨g, hg⟩ := key
    refine ⟨1, σ4, PS τ g, rfl, ?_, fin_q ok h4 (hI g) (f4.trans (l6.trans (hL _)))⟩
    unfold f_X11_associates
    rw [e_pF, r_isReg, e_bs, hx, if_pos rfl, r_isReg, e_bs, hy, if_pos rfl, r_isReg, e_bs, hz, if_pos rfl, e6, e_bq, if_pos rfl]
    exact hg
  · obtain ⟨b3, τ, e6, q6, l6, _, _, hc6⟩ := r_cons hr.told ok
    have hbb : b3 = b := bool_iff hc6 hB
    subst hbb
    have hcl : (if (isReg x && (isReg y && b3)) = true then ((some (isReg z) : Option Bool).bind (fun (b2 : Bool) => if b2 then gR 5 x (fun (p3 : Nat) => gR 5 y (fun (p4 : Nat) => (f_X0_product σ 176 p3 p4).bind (fun (σ5 : Mem) => gR 5 z (fun (p6 : Nat) => (f_X0_product σ5 176 176 p6).bind (fun (σ7 : Mem) => gR 5 y (fun (p8 : Nat) => gR 5 z (fun (p9 : Nat) => (f_X0_product σ7 177 p8 p9).bind (fun (σ10 : Mem) => gR 5 x (fun (p11 : Nat) => (f_X0_product σ10 177 p11 177).bind (fun (σ12 : Mem) => (f_X0_areSame σ12 176 177).bind (fun (b13 : Bool) => (f_X10_bit σ12 b13).bind (fun (v14 : Int32) => some (v14, σ12))))))))))))) else some ((-1), σ))) else some ((-1), σ) : Option (Int32 × Mem)) = some (-1, σ) := by
      by_cases h1 : isReg x = true ∧ isReg y = true ∧ b3 = true
      · rw [h1.1, h1.2.1, h1.2.2, Bool.and_self, Bool.and_self, if_pos rfl, e_bs, nb (fun q => hall ⟨h1.1, h1.2.1, q, h1.2.2⟩), if_neg (by decide)]
      · rw [and3 h1, if_neg (by decide)]
    rw [hcl]
    by_cases hreg : isReg x = true ∧ isReg y = true ∧ isReg z = true
    · refine ⟨-1, σ, τ, rfl, ?_, fin_q ok h q6 (f0.trans l6)⟩
      unfold f_X11_associates
      rw [e_pF, r_isReg, e_bs, hreg.1, if_pos rfl, r_isReg, e_bs, hreg.2.1, if_pos rfl, r_isReg, e_bs, hreg.2.2, if_pos rfl, e6, e_bq, nb (fun q => hall ⟨hreg.1, hreg.2.1, hreg.2.2, q⟩), if_neg (by decide)]
    · refine ⟨-1, σ, _, rfl, ?_, fin_q ok h hr.told f0⟩
      unfold f_X11_associates
      rw [e_pF, r_isReg, e_bs]
      cases hx : isReg x with
      | false => rw [if_neg (by decide)]
      | true =>
        rw [if_pos rfl, r_isReg, e_bs]
        cases hy : isReg y with
        | false => rw [if_neg (by decide)]
        | true =>
          rw [if_pos rfl, r_isReg, e_bs, nb (fun q => hreg ⟨hx, hy, q⟩), if_neg (by decide)]
theorem ok_24 : Ok_24 II := by
  intro c σ x y w hc ⟨S, ok, h, hr⟩
  have hG : GOK (aG S) := ok.1.1
  have hn : gn (aG S) ≤ 6 := hG.2.1
  obtain ⟨b, hb, hB⟩ := c_cons h
  have ew := fun τ : Mem => r_in (σ := τ) (x := w) (l := 0) (u := 2) ⟨by omega, by omega⟩ ⟨by omega, by omega⟩
  have f0 : LO σ (wI σ 306 0 0) := LO.row (by omega)
  unfold f_X10_both
  rw [c_areUsable hb, e_bs]
  by_cases hall : isReg x = true ∧ isReg y = true ∧ b = true
  · obtain ⟨hx, hy, hbt⟩ := hall
    have hcons := hB.mp hbt
    have hJ := Cons.jac hG hcons
    rw [hx, hy, hbt, Bool.and_self, Bool.and_self, if_pos rfl]
    obtain ⟨p, hp, rfl⟩ := isReg_idx hx
    obtain ⟨q, hq, rfl⟩ := isReg_idx hy
    rw [e_gR ln_5 hp (by omega), rf_5 hp, e_gR ln_5 hq (by omega), rf_5 hq]
    -- the reference, behind any of the class's ways
    have ref : ∀ σ2, HI σ σ2 → ∃ τ, LO σ2 τ ∧ MG τ (aG S) ∧ M0 τ ∧ (∀ g, IRef S (PS τ g)) ∧ (∀ g, LO τ (PS τ g)) ∧ IRef S τ ∧ ∃ f, f 0 = aR S p ∧ f 1 = aR S q ∧ ∀ r τ', ((0 ≤ w.toInt ∧ w.toInt ≤ 2) → (if w = 2 then ((f_X11_firstApart (PS τ f)).bind (fun (v12 : Int32) => some (v12, PS τ f))) else ((f_X11_commutator (PS τ f) 0 1 2).bind (fun (σ9 : Mem) => if w = 1 then ((f_X11_layer σ9 2).bind (fun (v11 : Int32) => some (v11, σ9))) else ((f_X11_isOne σ9 2).bind (fun (b10 : Bool) => if b10 then some (1, σ9) else some (0, σ9))))) : Option (Int32 × Mem)) = some (r, τ')) → (¬ (0 ≤ w.toInt ∧ w.toInt ≤ 2) → r = -1 ∧ τ' = τ) → f_X11_both σ2 (i32 p) (i32 q) w = some (r, τ') := by
      intro σ2 hi2
      obtain ⟨b3, τ, e3, q3, l3, _, _, hc3⟩ := r_cons (hr.hi hi2).told ok
      have : b3 = true := hc3.mpr hcons
      subst this
      obtain ⟨⟨f, hf⟩, hI, hL, hM, h0, hRB⟩ := at_slots q3
      have f2 : LO σ2 (wI σ2 306 0 0) := LO.row (by omega)
      have a1 : f_X11_laysRegister τ 0 (i32 p) = some (PS τ (uS f 0 (aR S p))) := by
        have := p_lays (σ := τ) (f := f) hRB ok (s := 0) (by omega) hp
        rw [hf] at this
        exact this
      have a2 : f_X11_laysRegister (PS τ (uS f 0 (aR S p))) 1 (i32 q) = some (PS τ (uS (uS f 0 (aR S p)) 1 (aR S q))) := p_lays (σ := τ) (f := uS f 0 (aR S p)) hRB ok (s := 1) (by omega) hq
      refine ⟨τ, f2.trans l3, hM, h0, hI, hL, q3, uS (uS f 0 (aR S p)) 1 (aR S q), by rw [uS_ne (by omega), uS_self], uS_self, fun r τ' h1 h2 => ?_⟩
      unfold f_X11_both
      rw [e_pF, r_isReg, e_bs, hx, if_pos rfl, r_isReg, e_bs, hy, if_pos rfl, e3, e_bq, if_pos rfl, show (0 : Int64) = oi 0 from rfl, show (2 : Int64) = oi 2 from rfl, ew, e_bs]
      by_cases hw : 0 ≤ w.toInt ∧ w.toInt ≤ 2
      · rw [decide_eq_true hw, if_pos rfl, a1, e_bs, a2, e_bs]
        exact h1 hw
      · obtain ⟨rfl, rfl⟩ := h2 hw
        rw [decide_eq_false hw, if_neg (by decide)]
    have sp := reg_sb ok p
    have sq := reg_sb ok q
    by_cases w0 : w = 0
    · subst w0
      rw [if_pos rfl]
      obtain ⟨σ1, e1, o1⟩ := c_doCommute hG (c_poly h ok hcons) (a := 6 + p) (b := 6 + q) (ln_reg hp) (ln_reg hq) (c_reg h hp) (c_reg h hq) (by omega) (by omega) (M := 999) (by omega) (by omega) sp sq (reg_z6 ok p) (reg_z6 ok q)
      have s1 := o1.sc (fun x hx => by omega)
      obtain ⟨τ, l2, hM, h0, hI, hL, _, f, hf0, hf1, href⟩ := ref σ1 s1.hi
      obtain ⟨g, e2, g2, _⟩ := p_commutator (σ := τ) (f := f) hM hG h0 (s := 0) (r := 1) (t := 2) (by omega) (by omega) (by omega) (by omega) (by omega) (B := 999) (by omega) (by omega) (by rw [hf0]; exact sp) (by rw [hf1]; exact sq)
      rw [hf0, hf1] at g2
      have e2' : f_X11_commutator (PS τ f) 0 1 2 = some (PS τ g) := e2
      have e3 : f_X11_isOne (PS τ g) 2 = some (isO (aG S) (g 2)) := p_isOne (σ := τ) (f := g) hM hG (s := 2) (by omega)
      rw [g2, isO_comm hG hJ] at e3
      rw [e1, e_bq]
      have hb1 : f_X10_bit σ1 (areS (aG S) (mul (aG S) (aR S p) (aR S q)) (mul (aG S) (aR S q) (aR S p))) = some (if areS (aG S) (mul (aG S) (aR S p) (aR S q)) (mul (aG S) (aR S q) (aR S p)) = true then 1 else 0) := by
        unfold f_X10_bit
        split <;> rfl
      rw [hb1, e_bs]
      refine ⟨_, σ1, PS τ g, rfl, href _ _ (fun _ => ?_) (fun z => absurd z (by decide)), fin_q ok (h.sc s1) (hI g) (l2.trans (hL _))⟩
      rw [if_neg (by decide), e2', e_bs, if_neg (by decide), e3, e_bs]
      split <;> rfl
    · rw [if_neg w0]
      by_cases w1 : w = 1
      · subst w1
        rw [if_pos rfl]
        obtain ⟨σ1, e1, o1, r1⟩ := c_commutator hG (c_poly h ok hcons) (out := 176) (a := 6 + p) (b := 6 + q) ln_176 (ln_reg hp) (ln_reg hq) (c_reg h hp) (c_reg h hq) (by omega) (by omega) ns176 (by omega) (by omega) (M := 999) (by omega) (by omega) sp sq (reg_z6 ok p) (reg_z6 ok q)
        have s1 := o1.sc (fun x hx => by omega)
        obtain ⟨r, e4, hL1⟩ := c_layerOf hG (h.sc s1).1.1 ln_176 r1
        obtain ⟨τ, l2, hM, h0, hI, hL, _, f, hf0, hf1, href⟩ := ref σ1 s1.hi
        obtain ⟨g, e2, g2, _⟩ := p_commutator (σ := τ) (f := f) hM hG h0 (s := 0) (r := 1) (t := 2) (by omega) (by omega) (by omega) (by omega) (by omega) (B := 999) (by omega) (by omega) (by rw [hf0]; exact sp) (by rw [hf1]; exact sq)
        rw [hf0, hf1] at g2
        have e2' : f_X11_commutator (PS τ f) 0 1 2 = some (PS τ g) := e2
        obtain ⟨r', e3, hL2⟩ := r_layer (σ := τ) (f := g) hG hM (s := 2) (by omega)
        rw [g2] at hL2
        have hrr : r' = r := hL2.uniq (hL1.congr (comm_eq hG hJ))
        subst hrr
        have e3' : f_X11_layer (PS τ g) 2 = some r' := e3
        rw [e1, e_bs, e4, e_bs]
        refine ⟨r', σ1, PS τ g, rfl, href _ _ (fun _ => ?_) (fun z => absurd z (by decide)), fin_q ok (h.sc s1) (hI g) (l2.trans (hL _))⟩
        rw [if_neg (by decide), e2', e_bs, if_pos rfl, e3', e_bs]
      · rw [if_neg w1]
        by_cases w2 : w = 2
        · subst w2
          rw [if_pos rfl]
          obtain ⟨r, e1, hF1⟩ := c_firstDiff hn h.1.1.1 (ln_reg hp) (ln_reg hq) (c_reg h hp) (c_reg h hq)
          obtain ⟨τ, l2, hM, h0, hI, hL, _, f, hf0, hf1, href⟩ := ref σ HI.refl
          obtain ⟨r', e3, hF2⟩ := r_firstApart (σ := τ) (f := f) hG hM
          rw [hf0, hf1] at hF2
          have hrr : r' = r := hF2.uniq hF1
          subst hrr
          rw [e1, e_bs]
          refine ⟨r', σ, PS τ f, rfl, href _ _ (fun _ => ?_) (fun z => absurd z (by decide)), fin_q ok h (hI f) (l2.trans (hL _))⟩
          rw [if_pos rfl, e3, e_bs]
        · rw [if_neg w2]
          obtain ⟨τ, l2, hM, h0, hI, hL, hI0, f, hf0, hf1, href⟩ := ref σ HI.refl
          have hno : ¬ (0 ≤ w.toInt ∧ w.toInt ≤ 2) := by
            rintro ⟨z1, z2⟩
            have hz := i32_of z1
            rcases (show w.toInt.toNat = 0 ∨ w.toInt.toNat = 1 ∨ w.toInt.toNat = 2 by omega) with t | t | t
            · rw [t] at hz; exact w0 hz
            · rw [t] at hz; exact w1 hz
            · rw [t] at hz; exact w2 hz
          exact ⟨-1, σ, τ, rfl, href _ _ (fun z => absurd z hno) (fun _ => ⟨rfl, rfl⟩), fin_q ok h hI0 l2⟩
  · obtain ⟨b3, τ, e6, q6, l6, _, _, hc6⟩ := r_cons hr.told ok
    have hbb : b3 = b := bool_iff hc6 hB
    subst hbb
    rw [and3 hall, if_neg (by decide)]
    by_cases hreg : isReg x = true ∧ isReg y = true
    · refine ⟨-1, σ, τ, rfl, ?_, fin_q ok h q6 (f0.trans l6)⟩
      unfold f_X11_both
      rw [e_pF, r_isReg, e_bs, hreg.1, if_pos rfl, r_isReg, e_bs, hreg.2, if_pos rfl, e6, e_bq, nb (fun q => hall ⟨hreg.1, hreg.2, q⟩), if_neg (by decide)]
    · refine ⟨-1, σ, _, rfl, ?_, fin_q ok h hr.told f0⟩
      unfold f_X11_both
      rw [e_pF, r_isReg, e_bs]
      cases hx : isReg x with
      | false => rw [if_neg (by decide)]
      | true => rw [if_pos rfl, r_isReg, e_bs, nb (fun q => hreg ⟨hx, q⟩), if_neg (by decide)]
end PWS
