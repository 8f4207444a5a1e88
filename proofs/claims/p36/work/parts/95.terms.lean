/-! tails and terms told -/
section TT
variable {σ : Mem} {G : GD}
theorem to64 {x : Int32} : x.toInt64 = oi x.toInt := by
  have h1 := Int32.toInt_lt x
  have h2 := Int32.le_toInt x
  rw [← Int64.toInt_inj, Int32.toInt_toInt64, oi_toInt (by omega) (by omega)]
theorem sub1 {x : Int32} : (x - 1).toInt = if x.toInt = -2 ^ 31 then 2 ^ 31 - 1 else x.toInt - 1 := by
  have h1 := Int32.toInt_lt x
  have h2 := Int32.le_toInt x
  rw [Int32.toInt_sub, show (1 : Int32).toInt = 1 from by decide]
  by_cases h : x.toInt = -2 ^ 31
  · rw [if_pos h, h]; decide
  · rw [if_neg h]
    apply Int.bmod_eq_of_le <;> omega
theorem sub1' {x : Int32} : (x.toInt = -2 ^ 31 ∧ (x - 1).toInt = 2 ^ 31 - 1) ∨ (x.toInt ≠ -2 ^ 31 ∧ (x - 1).toInt = x.toInt - 1) := by
  by_cases h : x.toInt = -2 ^ 31
  · left; refine ⟨h, ?_⟩; rw [sub1, if_pos h]
  · right; refine ⟨h, ?_⟩; rw [sub1, if_neg h]
def isTl (n : Nat) (j i k : Int32) : Bool := decide (1 ≤ i.toInt ∧ i.toInt < j.toInt ∧ j.toInt < k.toInt ∧ k.toInt ≤ n)
theorem c_isTl {a : Nat} (h : σ.1 a 0 = i32 (gn G)) (hn : gn G ≤ 6) {j i k : Int32} : f_X6_isTail σ a (j - 1) (i - 1) (k - 1) = some (isTl (gn G) j i k) := by
  have j1 := Int32.toInt_lt j
  have j2 := Int32.le_toInt j
  have i1 := Int32.toInt_lt i
  have i2 := Int32.le_toInt i
  have k1 := Int32.toInt_lt k
  have k2 := Int32.le_toInt k
  have sj := sub1' (x := j)
  have si := sub1' (x := i)
  have sk := sub1' (x := k)
  have z0 : (0 : Int32).toInt = 0 := by decide
  unfold f_X6_isTail isTl
  by_cases h1 : i - 1 < 0
  · have h1' := Int32.lt_iff_toInt_lt.mp h1
    rw [z0] at h1'
    rw [if_pos h1, decide_eq_false]
    · rfl
    · omega
  · have h1' : ¬ (i - 1).toInt < 0 := fun z => h1 (Int32.lt_iff_toInt_lt.mpr (by rw [z0]; exact z))
    rw [if_neg h1]
    by_cases h2 : j - 1 ≤ i - 1
    · have h2' := Int32.le_iff_toInt_le.mp h2
      rw [if_pos h2, decide_eq_false]
      · rfl
      · omega
    · have h2' : ¬ (j - 1).toInt ≤ (i - 1).toInt := fun z => h2 (Int32.le_iff_toInt_le.mpr z)
      rw [if_neg h2]
      by_cases h3 : k - 1 ≤ j - 1
      · have h3' := Int32.le_iff_toInt_le.mp h3
        rw [if_pos h3, decide_eq_false]
        · rfl
        · omega
      · have h3' : ¬ (k - 1).toInt ≤ (j - 1).toInt := fun z => h3 (Int32.le_iff_toInt_le.mpr z)
        rw [if_neg h3, e_gF, h]
        by_cases h4 : i32 (gn G) ≤ k - 1
        · have h4' := (ge32 (by omega)).mp h4
          rw [if_pos h4, decide_eq_false]
          · rfl
          · omega
        · have h4' : ¬ (gn G : Int) ≤ (k - 1).toInt := fun z => h4 ((ge32 (by omega)).mpr z)
          rw [if_neg h4, decide_eq_true]
          · rfl
          · omega
theorem r_isTl (h : MG σ G) (hn : gn G ≤ 6) {j i k : Int32} : f_X11_isTail σ j i k = some (isTl (gn G) j i k) := by
  have j1 := Int32.toInt_lt j
  have j2 := Int32.le_toInt j
  have i1 := Int32.toInt_lt i
  have i2 := Int32.le_toInt i
  unfold f_X11_isTail isTl
  have e1 := r_in (σ := σ) (x := i) (l := 1) (u := gn G) ⟨by omega, by omega⟩ ⟨by omega, by omega⟩
  have e2 := r_in (σ := σ) (x := j) (l := i.toInt + 1) (u := gn G) ⟨by omega, by omega⟩ ⟨by omega, by omega⟩
  have e3 := r_in (σ := σ) (x := k) (l := j.toInt + 1) (u := gn G) ⟨by omega, by omega⟩ ⟨by omega, by omega⟩
  rw [e_n h, e_bs, n64 (by omega), show (1 : Int64) = oi 1 from rfl, e1, e_bs]
  by_cases h1 : 1 ≤ i.toInt ∧ i.toInt ≤ gn G
  · rw [decide_eq_true h1, if_pos rfl, e_bs, to64 (x := i), oi_add, n64 (by omega), e2, e_bs]
    by_cases h2 : i.toInt + 1 ≤ j.toInt ∧ j.toInt ≤ gn G
    · rw [decide_eq_true h2, if_pos rfl, e_bs, to64 (x := j), oi_add, n64 (by omega), e3, e_bs]
      by_cases h3 : j.toInt + 1 ≤ k.toInt ∧ k.toInt ≤ gn G
      · rw [decide_eq_true h3, if_pos rfl, decide_eq_true (by omega)]; rfl
      · rw [decide_eq_false h3, if_neg (by decide), decide_eq_false (by omega)]; rfl
    · rw [decide_eq_false h2, if_neg (by decide), decide_eq_false (by omega)]; rfl
  · rw [decide_eq_false h1, if_neg (by decide), decide_eq_false (by omega)]; rfl
theorem isTl_idx {n : Nat} {j i k : Int32} (h : isTl n j i k = true) : ∃ a b c, b < a ∧ a < c ∧ c < n ∧ j - 1 = i32 a ∧ i - 1 = i32 b ∧ k - 1 = i32 c := by
  have h1 := of_decide_eq_true h
  have hi := i32_of (x := i) (by omega)
  have hj := i32_of (x := j) (by omega)
  have hk := i32_of (x := k) (by omega)
  refine ⟨j.toInt.toNat - 1, i.toInt.toNat - 1, k.toInt.toNat - 1, by omega, by omega, by omega, ?_, ?_, ?_⟩
  · have h3 := i32_sub (a := j.toInt.toNat) (b := 1) (by omega)
    rw [← hj] at h3; exact h3
  · have h3 := i32_sub (a := i.toInt.toNat) (b := 1) (by omega)
    rw [← hi] at h3; exact h3
  · have h3 := i32_sub (a := k.toInt.toNat) (b := 1) (by omega)
    rw [← hk] at h3; exact h3
theorem ok_20 : Ok_20 II := by
  intro c σ j i k hc ⟨S, ok, h, hr⟩
  have f0 : SR σ (wI σ 306 0 0) := SR.fld (by omega)
  have hr0 := hr.sr f0
  have hn : gn (aG S) ≤ 6 := ok.1.1.2.1
  unfold f_X10_tailOf f_X11_tailOf
  rw [c_isTl h.1.1.1 hn, e_bs, e_pF, r_isTl hr0.1.mg hn, e_bs]
  cases ht : isTl (gn (aG S)) j i k with
  | false =>
    rw [if_neg (by decide), if_neg (by decide)]
    exact ⟨_, _, rfl, rfl, fin_q ok h hr0 f0.lo⟩
  | true =>
    obtain ⟨a, b, d, hab, had, hdn, ea, eb, ed⟩ := isTl_idx ht
    rw [if_pos rfl, if_pos rfl, ea, eb, ed, c_read ok.1.1 h.1.1 (by decide +kernel) ln_4 (by omega) (by omega) (by omega), e_bs, e_tail hr0.1.mg (by omega) (by omega) (by omega), e_bs]
    exact ⟨_, _, rfl, rfl, fin_q ok h hr0 f0.lo⟩
theorem c_hasPoly {b : Bool} (h : σ.1 2 0 = i32 (gn G)) (hn : gn G ≤ 6) (hb : σ.1 40 3 = b2i b) {x : Int32} : f_X10_hasPolynomial σ x = some (isGen (gn G) x && b) := by
  unfold f_X10_hasPolynomial
  rw [c_isGen h hn, e_bs]
  cases isGen (gn G) x with
  | false => rfl
  | true =>
    rw [if_pos rfl, e_gZ hb]
    cases b <;> rfl
theorem r_isPoly {S : AS} (h : IRef S σ) (ok : OKS S) {x : Int32} : ∃ c τ, f_X11_isPolynomial σ x = some (isGen (gn (aG S)) x && c, τ) ∧ IRef S τ ∧ LO σ τ ∧ (c = true ↔ Cons (aG S)) ∧ (isGen (gn (aG S)) x = true → τ.1 306 9 = 1 ∧ Laid τ (aG S)) := by
  have hn : gn (aG S) ≤ 6 := ok.1.1.2.1
  obtain ⟨c, τ, e, hr, lo, h9, hl, hc⟩ := r_cons h ok
  unfold f_X11_isPolynomial
  rw [e_n h.1.mg, e_bs, r_isGen hn, e_bs]
  cases hx : isGen (gn (aG S)) x with
  | false =>
    refine ⟨c, σ, ?_, h, LO.refl, hc, fun z => absurd z (by decide)⟩
    rw [if_neg (by decide), e_bs]; rfl
  | true =>
    refine ⟨c, τ, ?_, hr, lo, hc, fun _ => ⟨h9, hl⟩⟩
    rw [if_pos rfl, e, e_bq]
    cases c <;> rfl
/-- the class's terms, where it is a group -/
theorem c_ct {c : Nat} {S : AS} (h : ICls c S σ) (hc : Cons (aG S)) : CPoly (aG S) σ := by
  obtain ⟨b, h1, h2, h3, _⟩ := h.2.2.2.2.2.2.2.1
  exact h3 (h2.mpr hc)
theorem r_rt {G : GD} (h : Laid σ G) (hc : Cons G) {k : Nat} (hk : k < gn G) (hn : gn G ≤ 6) : RT G σ k (Tk G k) := by
  obtain ⟨b, h1, h2, h3⟩ := h
  have := h3 k (by omega)
  rwa [if_pos ⟨h2.mpr hc, hk⟩] at this
theorem ok_21 : Ok_21 II := by
  intro c σ x hc ⟨S, ok, h, hr⟩
  have f0 : SR σ (wI σ 306 0 0) := SR.fld (by omega)
  have hn : gn (aG S) ≤ 6 := ok.1.1.2.1
  obtain ⟨b, hb, hB⟩ := c_cons h
  obtain ⟨b2, τ, e, hr2, lo, hB2, hl⟩ := r_isPoly (hr.sr f0) ok (x := x)
  have : b2 = b := bool_iff hB2 hB
  subst this
  unfold f_X10_terms f_X11_terms
  rw [c_hasPoly h.1.1.1 hn hb, e_bs, e_pF, e, e_bq]
  cases hx : isGen (gn (aG S)) x with
  | false => exact ⟨_, _, rfl, rfl, fin_q ok h hr2 (f0.lo.trans lo)⟩
  | true =>
    cases b2 with
    | false => exact ⟨_, _, rfl, rfl, fin_q ok h hr2 (f0.lo.trans lo)⟩
    | true =>
      have hcons := hB.mp rfl
      obtain ⟨k, hk, rfl, hk1⟩ := isGen_idx hx
      have hct := c_ct h hcons k (by omega)
      rw [if_pos hk] at hct
      have hrt := r_rt (hl hx).2 hcons hk hn
      rw [Bool.and_self, if_pos rfl, if_pos rfl, hk1, e_gR ln_44 (by omega) (by omega), rf_44 (by omega), e_gF, hct.1, e_gI ln_311 (by omega) (by omega), hrt.1]
      exact ⟨_, _, rfl, rfl, fin_q ok h hr2 (f0.lo.trans lo)⟩
theorem oi32 {n : Nat} (h : n < 2 ^ 31) : (oi (n : Int)).toInt32 = i32 n := by
  rw [← Int32.toInt_inj, Int64.toInt_toInt32, oi_toInt (by omega) (by omega), i32_toInt h]
  apply Int.bmod_eq_of_le <;> omega
/-- a term's degree, in the class's twelve -/
theorem vp_i32 {n p : Nat} (hn : n ≤ 6) (hp : p < 2 * n) (G : GD) (hG : gn G = n) : (if i32 n < i32 (p + 1) then (some (((6 + i32 (p + 1)) - i32 n) - 1)) else (some (i32 (p + 1) - 1)) : Option Int32) = some (i32 (vp G p)) := by
  unfold vp
  rw [hG]
  by_cases h : p < n
  · rw [if_neg (i_nlt (by omega) (by omega)), if_pos h, i32_1, i32_sub (by omega)]; rfl
  · rw [if_pos (i_lt (by omega) (by omega)), if_neg h, i32_6, i32_add, i32_sub (by omega), i32_1, i32_sub (by omega), show 6 + (p + 1) - n - 1 = 6 + (p - n) by omega]
theorem ok_22 : Ok_22 II := by
  intro c σ x t w hc ⟨S, ok, h, hr⟩
  have f0 : SR σ (wI σ 306 0 0) := SR.fld (by omega)
  have hG : GOK (aG S) := ok.1.1
  have hn : gn (aG S) ≤ 6 := hG.2.1
  obtain ⟨b, hb, hB⟩ := c_cons h
  obtain ⟨b2, τ, e, hr2, lo, hB2, hl⟩ := r_isPoly (hr.sr f0) ok (x := x)
  have : b2 = b := bool_iff hB2 hB
  subst this
  have hn0 : σ.1 2 0 = i32 (gn (aG S)) := h.1.1.1
  have fin := fun (τ' : Mem) (z : τ' = τ) => (show II (c + 1) τ' from z ▸ fin_q ok h hr2 (f0.lo.trans lo))
  unfold f_X10_term f_X11_term
  rw [e_gF, hn0, c_hasPoly hn0 hn hb, e_bs, e_pF, e, e_bq]
  cases hx : isGen (gn (aG S)) x with
  | false => exact ⟨_, _, rfl, rfl, fin _ rfl⟩
  | true =>
    cases b2 with
    | false => exact ⟨_, _, rfl, rfl, fin _ rfl⟩
    | true =>
      have hcons := hB.mp rfl
      obtain ⟨k, hk, rfl, hk1⟩ := isGen_idx hx
      have hct := c_ct h hcons k (by omega)
      rw [if_pos hk] at hct
      have hrt := r_rt (hl hx).2 hcons hk hn
      have hlen := Tk_len hG hk
      obtain ⟨r1, r2, r3, l1, l2, l3⟩ := rfk (k := k) (by omega)
      have et := r_in (σ := τ) (x := t) (l := 0) (u := (Tk (aG S) k).length - 1) ⟨by omega, by omega⟩ ⟨by omega, by omega⟩
      have ew := r_in (σ := τ) (x := w) (l := 0) (u := 2 * gn (aG S)) ⟨by omega, by omega⟩ ⟨by omega, by omega⟩
      have e64 : (i32 (Tk (aG S) k).length).toInt64 - 1 = oi ((Tk (aG S) k).length - 1) := by
        rw [n64 (by omega), show (1 : Int64) = oi 1 from rfl, oi_sub]
      have e65 : 2 * (i32 (gn (aG S))).toInt64 = oi (2 * gn (aG S)) := by
        rw [n64 (by omega), show (2 : Int64) = oi 2 from rfl, oi_mul]
      rw [Bool.and_self, if_pos rfl, if_pos rfl, hk1, e_gI ln_311 (by omega) (by omega), hrt.1, e64, show (0 : Int64) = oi 0 from rfl, et, e_bs, i32_2, i32_mul]
      have c1 : ∀ {y : Option Int32}, (0 ≤ w.toInt ∧ w.toInt ≤ 2 * gn (aG S)) → (gR 44 (i32 k) (fun (p3 : Nat) => if t < 0 then (some (-10000)) else (gF σ p3 0 (fun (v4 : Int32) => if t < v4 then (if w = 0 then (gL σ (rf p3 2) t (fun (v8 : Int64) => some (Int64.toInt32 v8))) else ((if i32 (gn (aG S)) < w then (some (((6 + w) - i32 (gn (aG S))) - 1)) else (some (w - 1)) : Option Int32).bind (fun (z5 : Int32) => j_X10_term_100 σ t p3 z5))) else (some (-10000))))) : Option Int32) = y → (if w < 0 then (some (-10000)) else (if w ≤ i32 (2 * gn (aG S)) then (gR 44 (i32 k) (fun (p3 : Nat) => if t < 0 then (some (-10000)) else (gF σ p3 0 (fun (v4 : Int32) => if t < v4 then (if w = 0 then (gL σ (rf p3 2) t (fun (v8 : Int64) => some (Int64.toInt32 v8))) else ((if i32 (gn (aG S)) < w then (some (((6 + w) - i32 (gn (aG S))) - 1)) else (some (w - 1)) : Option Int32).bind (fun (z5 : Int32) => j_X10_term_100 σ t p3 z5))) else (some (-10000)))))) else (some (-10000))) : Option Int32) = y := by
        intro y hw hy
        rw [if_neg (fun z => by have := (lt32 (k := 0) (by omega)).mp z; omega), if_pos ((le32 (by omega)).mpr (by omega))]
        exact hy
      by_cases hw : 0 ≤ w.toInt ∧ w.toInt ≤ 2 * gn (aG S)
      · by_cases ht : 0 ≤ t.toInt ∧ t.toInt ≤ (Tk (aG S) k).length - 1
        · have hti := i32_of ht.1
          have hwi := i32_of hw.1
          have hcl := fun y => c1 (y := y) hw
          have htn : t.toInt.toNat < (Tk (aG S) k).length := by omega
          have hwn : w.toInt.toNat ≤ 2 * gn (aG S) := by omega
          rw [decide_eq_true ht, if_pos rfl, e_n hr2.1.mg, e_bs, e65, ew, e_bs, decide_eq_true hw, if_pos rfl]
          generalize t.toInt.toNat = tn at hti htn
          generalize w.toInt.toNat = wn at hwi hwn
          subst hti
          subst hwi
          obtain ⟨e9, he⟩ : ∃ e9, (Tk (aG S) k)[tn]? = some e9 := ⟨_, List.getElem?_eq_getElem htn⟩
          have q1 := hct.2 tn e9 he
          have q2 := hrt.2 tn e9 he
          have emem : e9 ∈ Tk (aG S) k := List.mem_of_getElem? he
          have hpm := (List.mem_filter.mp emem).1
          have hta : f_X11_termAt τ (i32 (k + 1)) (i32 tn) = some (i32 (9100 * k + 13 * tn)) := by
            unfold f_X11_termAt
            rw [hk1, show (9100 : Int32) = i32 9100 from rfl, show (13 : Int32) = i32 13 from rfl, i32_mul, i32_mul, i32_add]
          rw [hta, e_bs, i32_add, e_gL ln_312 (by omega) (by omega)]
          by_cases hw0 : wn = 0
          · subst hw0
            refine ⟨(oi (cf (aG S) k e9)).toInt32, τ, hcl _ ?_, by rw [Nat.add_zero, q2.2.1], fin _ rfl⟩
            rw [e_gR ln_44 (by omega) (by omega), rf_44 (by omega), if_neg (show ¬ i32 tn < 0 from i_nlt (b := 0) (by omega) (by omega)), e_gF, hct.1, if_pos (i_lt htn (by omega)), if_pos (show i32 0 = 0 from rfl), r2, e_gL l2 (by omega) (by omega), q1.2.1]
          · obtain ⟨p, rfl⟩ : ∃ p, wn = p + 1 := ⟨wn - 1, by omega⟩
            have hp : p < e9.length := by rw [q2.1]; omega
            have q3 := q2.2.2 p _ (List.getElem?_eq_getElem hp)
            have hd3 := fun u (_ : u < 12) => dg_le (G := aG S) (pts_le3 hG (hG.2.2.1 k hk).2 hpm) u
            refine ⟨i32 (dg (aG S) e9 (vp (aG S) p)), τ, hcl _ ?_, ?_, fin _ rfl⟩
            · rw [e_gR ln_44 (by omega) (by omega), rf_44 (by omega), if_neg (show ¬ i32 tn < 0 from i_nlt (b := 0) (by omega) (by omega)), e_gF, hct.1, if_pos (i_lt htn (by omega)), if_neg (i_ne0 (by omega) (by omega)), vp_i32 hn (by omega) (aG S) rfl, e_bs]
              unfold j_X10_term_100
              rw [r1, e_gI l1 (by omega) (by omega), q1.1, c_degree hd3 (vp_lt hG (by omega)), e_bs]
            · have hb := pts_le3 hG (hG.2.2.1 k hk).2 hpm _ (List.getElem_mem hp)
              rw [show 9100 * k + 13 * tn + (p + 1) = 9100 * k + 13 * tn + 1 + p by omega, q3, oi32 (by omega), dg_vp hG (by omega), List.getD_eq_getElem?_getD, List.getElem?_eq_getElem hp]
              rfl
        · refine ⟨-10000, τ, c1 hw ?_, by rw [decide_eq_false ht]; rfl, fin _ rfl⟩
          rw [e_gR ln_44 (by omega) (by omega), rf_44 (by omega)]
          by_cases h1 : t < 0
          · rw [if_pos h1]
          · have h1' : ¬ t.toInt < 0 := fun z => h1 ((lt32 (k := 0) (by omega)).mpr z)
            rw [if_neg h1, e_gF, hct.1, if_neg]
            intro z
            have := (lt32 (by omega)).mp z
            omega
      · refine ⟨-10000, τ, ?_, ?_, fin _ rfl⟩
        · by_cases h1 : w < 0
          · rw [if_pos h1]
          · have h1' : ¬ w.toInt < 0 := fun z => h1 ((lt32 (k := 0) (by omega)).mpr z)
            rw [if_neg h1, if_neg]
            intro z
            have := (le32 (by omega)).mp z
            omega
        · by_cases ht : 0 ≤ t.toInt ∧ t.toInt ≤ (Tk (aG S) k).length - 1
          · rw [decide_eq_true ht, if_pos rfl, e_n hr2.1.mg, e_bs, e65, ew, e_bs, decide_eq_false hw, if_neg (by decide)]
          · rw [decide_eq_false ht, if_neg (by decide)]
end TT
