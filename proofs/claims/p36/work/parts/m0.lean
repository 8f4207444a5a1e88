/-! p36: what single calls of the class do, told without the reference -/
section SPX
variable {σ : Mem} {S : AS} {c : Nat}
theorem s_look0 (h : ICls c S σ) : f_X10_look σ 0 = some (i32 (gn (aG S))) := by
  have h0 : σ.1 2 0 = i32 (gn (aG S)) := h.1.1.1
  unfold f_X10_look
  rw [if_pos rfl, e_gF, h0]
theorem s_look8 (h : ICls c S σ) : f_X10_look σ 8 = some (aT S).1 := by
  have h0 : σ.1 16 0 = (aT S).1 := h.2.1.1
  unfold f_X10_look
  rw [if_neg (by decide), if_neg (by decide), if_neg (by decide), if_neg (by decide), if_neg (by decide), if_neg (by decide), if_neg (by decide), if_neg (by decide), if_pos rfl, show (0 : Int32) = i32 0 from rfl, e_gI ln_16 (by omega) (by omega), h0]
theorem s_cons (h : ICls c S σ) : ∃ b : Bool, f_X10_consistent σ = some (if b = true then 1 else 0) ∧ (b = true ↔ Cons (aG S)) ∧ σ.1 40 3 = b2i b := by
  obtain ⟨b, hb, hB⟩ := c_cons h
  refine ⟨b, ?_, hB, hb⟩
  unfold f_X10_consistent
  rw [e_gZ hb, c_bitB, e_bs]
theorem s_mult (h : ICls c S σ) (ok : OKS S) (hc : Cons (aG S)) {r p q : Nat} (hr : r < 10) (hp : p < 10) (hq : q < 10) : ∃ τ, f_X10_multiply σ (i32 r) (i32 p) (i32 q) = some (isEl (aG S) (mul (aG S) (aR S p) (aR S q)), τ) ∧ ICls (c + 1) (if isEl (aG S) (mul (aG S) (aR S p) (aR S q)) = true then nS S r (mul (aG S) (aR S p) (aR S q)) else ovS S) τ := by
  have hG : GOK (aG S) := ok.1.1
  obtain ⟨b, hb, hB⟩ := c_cons h
  have hbt : b = true := hB.mpr hc
  subst hbt
  obtain ⟨σ1, e1, o1, r1⟩ := c_product hG (c_poly h ok hc) (out := 176) (a := 6 + p) (b := 6 + q) ln_176 (ln_reg hp) (ln_reg hq) (c_reg h hp) (c_reg h hq) (by omega) ns176 (by omega) (by omega) ((reg_sb ok p).w hG (by omega)) ((reg_sb ok q).w hG (by omega)) (reg_z6 ok p)
  have s1 := o1.sc (fun x hx => by omega)
  obtain ⟨σ2, e2, i2, hi2⟩ := c_keepCounted (h.sc s1) ok r1 ((reg_z6 ok p).muls hG) hr
  unfold f_X10_multiply
  rw [c_areUsable hb, e_bs, isReg_of hr, isReg_of hp, Bool.and_self, Bool.and_self, if_pos rfl, c_isReg, e_bs, isReg_of hq, if_pos rfl, e_gR ln_5 hp (by omega), rf_5 hp, e_gR ln_5 hq (by omega), rf_5 hq, e1, e_bs, e2, e_bq]
  exact ⟨σ2, rfl, i2⟩
theorem s_inv (h : ICls c S σ) (ok : OKS S) (hc : Cons (aG S)) {r p : Nat} (hr : r < 10) (hp : p < 10) : ∃ τ, f_X10_invert σ (i32 r) (i32 p) = some (isEl (aG S) (inv (aG S) (aR S p)), τ) ∧ ICls (c + 1) (if isEl (aG S) (inv (aG S) (aR S p)) = true then nS S r (inv (aG S) (aR S p)) else ovS S) τ := by
  have hG : GOK (aG S) := ok.1.1
  obtain ⟨b, hb, hB⟩ := c_cons h
  have hbt : b = true := hB.mpr hc
  subst hbt
  obtain ⟨σ1, e1, o1, r1⟩ := c_inverse hG (c_poly h ok hc) (out := 176) (a := 6 + p) ln_176 (ln_reg hp) (c_reg h hp) (by omega) ns176 (by omega) ((reg_sb ok p).w hG (by omega))
  have s1 := o1.sc (fun x hx => by omega)
  obtain ⟨σ2, e2, i2, hi2⟩ := c_keepCounted (h.sc s1) ok r1 Z6.invs hr
  unfold f_X10_invert
  rw [c_areUsable hb, e_bs, isReg_of hr, isReg_of hp, Bool.and_self, Bool.and_self, if_pos rfl, e_gR ln_5 hp (by omega), rf_5 hp, e1, e_bs, e2, e_bq]
  exact ⟨σ2, rfl, i2⟩
theorem s_assoc (h : ICls c S σ) (ok : OKS S) (hc : Cons (aG S)) {p q r : Nat} (hp : p < 10) (hq : q < 10) (hr10 : r < 10) : ∃ τ, f_X10_associates σ (i32 p) (i32 q) (i32 r) = some (1, τ) ∧ ICls (c + 1) S τ := by
  have hG : GOK (aG S) := ok.1.1
  obtain ⟨b, hb, hB⟩ := c_cons h
  have hbt : b = true := hB.mpr hc
  subst hbt
  have hJ := Cons.jac hG hc
  have P0 := c_poly h ok hc
  have n177 : notSum 177 := fun k hk => by omega
  have sp := reg_sb ok p
  have sq := reg_sb ok q
  have sr := reg_sb ok r
  obtain ⟨σ1, e1, o1, r1⟩ := c_product hG P0 (out := 176) (a := 6 + p) (b := 6 + q) ln_176 (ln_reg hp) (ln_reg hq) (c_reg h hp) (c_reg h hq) (by omega) ns176 (by omega) (by omega) (sp.w hG (by omega)) (sq.w hG (by omega)) (reg_z6 ok p)
  have h1 := h.sc (o1.sc (fun x hx => by omega))
  obtain ⟨σ2, e2, o2, r2⟩ := c_product hG (c_poly h1 ok hc) (out := 176) (a := 176) (b := 6 + r) ln_176 ln_176 (ln_reg hr10) r1 (c_reg h1 hr10) (by omega) ns176 (by omega) (by omega) ((sp.mul hG sq).w hG (by omega)) (sr.w hG (by omega)) ((reg_z6 ok p).muls hG)
  have h2 := h1.sc (o2.sc (fun x hx => by omega))
  obtain ⟨σ3, e3, o3', r3⟩ := c_product hG (c_poly h2 ok hc) (out := 177) (a := 6 + q) (b := 6 + r) ln_177 (ln_reg hq) (ln_reg hr10) (c_reg h2 hq) (c_reg h2 hr10) (by omega) n177 (by omega) (by omega) (sq.w hG (by omega)) (sr.w hG (by omega)) (reg_z6 ok q)
  have h3 := h2.sc (o3'.sc (fun x hx => by omega))
  obtain ⟨σ4, e4, o4, r4⟩ := c_product hG (c_poly h3 ok hc) (out := 177) (a := 6 + p) (b := 177) ln_177 (ln_reg hp) ln_177 (c_reg h3 hp) r3 (by omega) n177 (by omega) (by omega) (sp.w hG (by omega)) ((sq.mul hG sr).w hG (by omega)) (reg_z6 ok p)
  have h4 := h3.sc (o4.sc (fun x hx => by omega))
  have r2' : H6 σ4 176 (mul (aG S) (mul (aG S) (aR S p) (aR S q)) (aR S r)) := (r2.keep o3' (by omega)).keep o4 (by omega)
  have e5 := c_same hG ln_176 ln_177 r2' r4 (((reg_z6 ok p).muls hG).muls hG) ((reg_z6 ok p).muls hG)
  rw [areS_eq (massoc hG hJ (a := aR S p) (b := aR S q) (c := aR S r))] at e5
  unfold f_X10_associates
  rw [c_areUsable hb, e_bs, isReg_of hp, isReg_of hq, Bool.and_self, Bool.and_self, if_pos rfl, c_isReg, e_bs, isReg_of hr10, if_pos rfl, e_gR ln_5 hp (by omega), rf_5 hp, e_gR ln_5 hq (by omega), rf_5 hq, e1, e_bs, e_gR ln_5 hr10 (by omega), rf_5 hr10, e2, e_bs, e_gR ln_5 hq (by omega), rf_5 hq, e_gR ln_5 hr10 (by omega), rf_5 hr10, e3, e_bs, e_gR ln_5 hp (by omega), rf_5 hp, e4, e_bs, e5, e_bs, c_bitB, e_bs, if_pos rfl]
  exact ⟨σ4, rfl, h4.up⟩
theorem s_exp (h : ICls c S σ) (ok : OKS S) {r k : Nat} (hr : r < 10) (hk : k < gn (aG S)) : f_X10_exponent σ (i32 r) (i32 (k + 1)) = some (o3 (aR S r k)) := by
  have hn : gn (aG S) ≤ 6 := ok.1.1.2.1
  have e9 : σ.2 (6 + r) k = oi ((aX S).2 r k) := h.1.2 r k hr (by omega)
  unfold f_X10_exponent
  rw [c_isReg, e_bs, isReg_of hr, if_pos rfl, c_isGen h.1.1.1 hn, e_bs, isGen_of hn hk, if_pos rfl, e_gR ln_5 hr (by omega), rf_5 hr, show i32 (k + 1) - 1 = i32 k from by rw [i32_1, i32_sub (by omega)]; rfl, e_gL (ln_reg hr) (by omega) (by omega), e9, o3_oi (ok.1.2.1 r k)]
theorem s_set (h : ICls c S σ) (ok : OKS S) (hc : Cons (aG S)) {r k : Nat} {v : Int32} (hr10 : r < 10) (hk : k < gn (aG S)) (hv : -999 ≤ v.toInt ∧ v.toInt ≤ 999) : ∃ τ, f_X10_set σ (i32 r) (i32 (k + 1)) v = some (true, τ) ∧ ICls (c + 1) (nS S r (uV (aR S r) k v.toInt)) τ := by
  have hG : GOK (aG S) := ok.1.1
  have hn : gn (aG S) ≤ 6 := hG.2.1
  obtain ⟨b, hb, hB⟩ := c_cons h
  have hbt : b = true := hB.mpr hc
  subst hbt
  have l999 : v < -999 ↔ v.toInt < -999 := by
    rw [Int32.lt_iff_toInt_lt, show (-999 : Int32).toInt = -999 by decide]
  have hk1 : i32 (k + 1) - 1 = i32 k := by rw [i32_1, i32_sub (by omega)]; rfl
  unfold f_X10_set
  rw [c_isReg, e_bs, isReg_of hr10, if_pos rfl, c_isGen h.1.1.1 hn, e_bs, isGen_of hn hk, if_pos rfl, e_gZ hb, if_pos rfl, if_neg (fun q => by have := l999.mp q; omega), if_pos (show v ≤ 999 from (le32 (k := 999) (by omega)).mpr (by omega))]
  obtain ⟨σ3, e3, a3, f3⟩ := c_beginAct h.1 h.2.2.1 ok.2.2.1.1
  rw [e3, e_bs, e_gR ln_5 hr10 (by omega), rf_5 hr10, hk1, e_pL (ln_reg hr10) (by omega) (by omega)]
  obtain ⟨q2, q3, q4, q5, q6⟩ := h.rest
  have g : ∀ x, x ≠ 0 → x < 178 ∨ 305 < x → (wL σ3 (6 + r) k v.toInt64).1 x = σ.1 x := fun x h0 hx => f3.1 x h0 hx
  have g2 : ∀ x, (x < 178 ∨ 305 < x) → x ≠ 6 + r → (wL σ3 (6 + r) k v.toInt64).2 x = σ.2 x := fun x hx hn => by rw [← f3.2.1 x hx]; funext y; rw [wL_2, if_neg (fun z => hn z.1)]
  have g0 : ∀ c, c ≠ 4 → c ≠ 5 → (wL σ3 (6 + r) k v.toInt64).1 0 c = σ.1 0 c := fun c c1 c2 => f3.2.2 c c1 c2
  refine ⟨_, rfl, ICls.up (ICls.mk ⟨?_, fun q i hq hi => ?_⟩ ⟨q2.eqs (g 16 (by omega) (by omega)), a3.eqs rfl (fun x b1 b2 => rfl) (fun x b1 b2 => by funext y; rw [wL_2, if_neg (by omega)]), ⟨by rw [g0 2 (by omega) (by omega)]; exact q4.1, fun y hy => ⟨(q4.2 y hy).1.eqs (fun x a b => g x (by omega) (by omega)) (fun x a b => g2 x (by omega) (by omega)), (q4.2 y hy).2.eqs (g 32 (by omega) (by omega))⟩⟩, ⟨by rw [g0 7 (by omega) (by omega)]; exact q5.1, fun p x hp => by rw [g 34 (by omega) (by omega)]; exact q5.2 p x hp⟩, by rw [g 144 (by omega) (by omega)]; exact q6.1, by rw [g 144 (by omega) (by omega)]; exact q6.2⟩ (h.law.eqs (fun c _ => by rw [g 40 (by omega) (by omega)]) (fun x hx => g x (by omega) (by omega)) (fun x hx => g2 x (by omega) (by omega))))⟩
  · have := h.1.1
    show CG _ 2 (aG S)
    unfold CG
    rw [g 2 (by omega) (by omega), g (2 + 1) (by omega) (by omega), g (2 + 2) (by omega) (by omega)]
    exact this
  · show (wL σ3 (6 + r) k v.toInt64).2 (6 + q) i = oi (upR (aG S) (aR S) r (uV (aR S r) k v.toInt) q i)
    unfold upR
    by_cases h1 : q = r
    · rw [if_pos h1, h1]
      by_cases h2 : i < gn (aG S)
      · have h3 : oi (oi (uV (aR S r) k v.toInt i)).toInt = oi (uV (aR S r) k v.toInt i) := Int64.ofInt_toInt _
        rw [if_pos h2, h3, wL_2]
        unfold uV
        by_cases h4 : i = k
        · rw [if_pos ⟨rfl, h4⟩, if_pos h4, to64]
        · rw [if_neg (fun z => h4 z.2), if_neg h4, f3.2.1 _ (by omega)]
          exact h.1.2 r i hr10 hi
      · rw [if_neg h2, wL_2, if_neg (by omega), f3.2.1 _ (by omega)]
        have := h.1.2 r i hr10 hi
        rw [show 1 + 5 + r = 6 + r by omega] at this
        rw [this, ok.1.2.2 r i (Nat.le_of_not_lt h2)]
    · rw [if_neg h1, g2 _ (by omega) (by omega)]
      exact h.1.2 q i hq hi
/-! where the group is not consistent -/
theorem s_set0 (h : ICls c S σ) (ok : OKS S) (hc : ¬ Cons (aG S)) {r k : Nat} {v : Int32} (hr10 : r < 10) (hk : k < gn (aG S)) : f_X10_set σ (i32 r) (i32 (k + 1)) v = some (false, σ) := by
  have hn : gn (aG S) ≤ 6 := ok.1.1.2.1
  obtain ⟨b, hb, hB⟩ := c_cons h
  have hbt : b = false := Bool.eq_false_iff.mpr (fun q => hc (hB.mp q))
  subst hbt
  unfold f_X10_set
  rw [c_isReg, e_bs, isReg_of hr10, if_pos rfl, c_isGen h.1.1.1 hn, e_bs, isGen_of hn hk, if_pos rfl, e_gZ hb, if_neg (by decide)]
theorem s_mult0 (h : ICls c S σ) (hc : ¬ Cons (aG S)) {x y z : Int32} : f_X10_multiply σ x y z = some (false, σ) := by
  obtain ⟨b, hb, hB⟩ := c_cons h
  have hbt : b = false := Bool.eq_false_iff.mpr (fun q => hc (hB.mp q))
  subst hbt
  unfold f_X10_multiply
  rw [c_areUsable hb, e_bs, Bool.and_false, Bool.and_false, if_neg (by decide)]
theorem s_terms0 (h : ICls c S σ) (ok : OKS S) (hc : ¬ Cons (aG S)) {x : Int32} : f_X10_terms σ x = some (-1) := by
  have hn : gn (aG S) ≤ 6 := ok.1.1.2.1
  obtain ⟨b, hb, hB⟩ := c_cons h
  have hbt : b = false := Bool.eq_false_iff.mpr (fun q => hc (hB.mp q))
  subst hbt
  unfold f_X10_terms
  rw [c_hasPoly h.1.1.1 hn hb, e_bs, Bool.and_false, if_neg (by decide)]
/-! groups -/
def newS (G' : GD) (S : AS) : AS := ((G', fun _ _ => 0), aT S, psh (aX S) (aA S), aI S, aP S, aF S)
theorem newS_ok {G' : GD} (ok : OKS S) (hG' : GOK G') : OKS (newS G' S) := by
  refine ⟨⟨hG', fun r i => ⟨by show (-999 : Int) ≤ 0; omega, by show (0 : Int) ≤ 999; omega⟩, fun r i _ => rfl⟩, ok.2.1, ⟨?_, fun X hX => ?_⟩, ok.2.2.2⟩
  · show (psh (aX S) (aA S)).length ≤ 8
    rw [psh_len]; omega
  · have h1 : X ∈ aX S :: aA S := List.mem_of_mem_take hX
    rcases List.mem_cons.mp h1 with h | h
    · rw [h]; exact ok.1
    · exact ok.2.2.1.2 X h
theorem s_kind (h : ICls c S σ) (ok : OKS S) (hc : c < 520) {κ : Nat} (hκ : κ < 4) : ∃ τ, f_X10_kind σ (i32 κ) = some (true, τ) ∧ ICls (c + 1) (newS (kf κ 8) S) τ := by
  obtain ⟨σ2, e3, a2, a3, a4, a5, a6⟩ := c_beginGroup h ok
  obtain ⟨σ3, e4, f4, m4⟩ := c_takeKind (σ := σ2) hκ
  obtain ⟨σ4, e5, i5, hi5⟩ := c_newGroup (S := (aX S, aT S, psh (aX S) (aA S), aI S, aP S, aF S)) hc ok.1.1 (kf_ok hκ 8 (by omega)) a2 a3 a5 f4 m4
  unfold f_X10_kind
  rw [if_neg (show ¬ i32 κ < 0 from i_nlt (b := 0) (by omega) (by omega)), tabL_0, if_pos (show i32 κ < Int32.ofNat 4 from i_lt (b := 4) hκ (by omega)), e3, e_bs, e4, e_bs, e5, e_bs]
  exact ⟨σ4, rfl, i5⟩
theorem s_group (h : ICls c S σ) (ok : OKS S) (hc : c < 520) {n w : Nat} (hok : OKW n w) : ∃ τ, f_X10_group σ (i32 n) (i32 w) = some (true, τ) ∧ ICls (c + 1) (newS (GW n w) S) τ := by
  have h4 : 4 ^ n ≤ 4 ^ 6 := Nat.pow_le_pow_right (by omega) hok.2.1
  have hw := hok.2.2.1
  obtain ⟨b, e1, hb⟩ := c_areWeights (σ := σ) (x := i32 n) (y := i32 w)
  have hbt : b = true := hb.mpr ⟨n, w, rfl, rfl, hok⟩
  subst hbt
  obtain ⟨σ2, e3, a2, a3, a4, a5, a6⟩ := c_beginGroup h ok
  obtain ⟨σ3, e4, f4, m4⟩ := c_reset (σ := σ2) (n := n) (w := w) hok.2.1 (by omega)
  obtain ⟨σ4, e5, i5, hi5⟩ := c_newGroup (S := (aX S, aT S, psh (aX S) (aA S), aI S, aP S, aF S)) hc ok.1.1 (GW_ok hok) a2 a3 a5 f4 m4
  unfold f_X10_group
  rw [e1, e_bs, if_pos rfl, e3, e_bs, e4, e_bs, e5, e_bs]
  exact ⟨σ4, rfl, i5⟩
theorem s_tail (h : ICls c S σ) (ok : OKS S) (hc : c < 520) {j i k v : Int32} : (isTl (gn (aG S)) j i k = true ∧ ∃ τ G', f_X10_tail σ j i k v = some (true, τ) ∧ GOK G' ∧ gn G' = gn (aG S) ∧ ICls (c + 1) (newS G' S) τ) ∨ (f_X10_tail σ j i k v = some (false, σ) ∧ (isTl (gn (aG S)) j i k = true → v ≠ 0)) := by
  have hG : GOK (aG S) := ok.1.1
  have hn : gn (aG S) ≤ 6 := hG.2.1
  unfold f_X10_tail
  cases ht : isTl (gn (aG S)) j i k with
  | false =>
    have e1 : f_X6_mayBe σ 2 (j - 1) (i - 1) (k - 1) v = some false := by
      unfold f_X6_mayBe
      rw [c_isTl h.1.1.1 hn, e_bs, ht, if_neg (by decide)]
    right
    rw [e1, e_bs, if_neg (by decide)]
    exact ⟨rfl, fun q => absurd q (by decide)⟩
  | true =>
    obtain ⟨a, b, d, hab, had, hdn, ea, eb, ed⟩ := isTl_idx ht
    rw [c_mayBe hG h.1.1 (by omega) (by omega) (by omega) ht ea eb ed, e_bs]
    by_cases hok : 0 ≤ v.toInt ∧ v.toInt ≤ 3 ∧ (v.toInt = 0 ∨ gw (aG S) b + gw (aG S) a ≤ gw (aG S) d)
    · left
      rw [decide_eq_true hok, if_pos rfl, ea, eb, ed]
      have hvi := i32_of hok.1
      have hG' := upT_ok hG (v := v.toInt.toNat) (by omega) ⟨hab, had, hdn⟩ (by omega)
      obtain ⟨σ2, e3, a2, a3, a4, a5, a6⟩ := c_beginGroup h ok
      obtain ⟨σ3, e4, f4, m4⟩ := c_write (σ := σ2) (v := v.toInt.toNat) hn a4 hab had hdn
      rw [← hvi] at e4
      obtain ⟨σ4, e5, i5, hi5⟩ := c_newGroup (S := (aX S, aT S, psh (aX S) (aA S), aI S, aP S, aF S)) hc ok.1.1 hG' a2 a3 a5 f4 m4
      rw [e3, e_bs, e4, e_bs, e5, e_bs]
      exact ⟨rfl, σ4, _, rfl, hG', rfl, i5⟩
    · right
      rw [decide_eq_false hok, if_neg (by decide)]
      refine ⟨rfl, fun _ q => hok ?_⟩
      subst q
      exact ⟨by decide, by decide, Or.inl (by decide)⟩
end SPX
