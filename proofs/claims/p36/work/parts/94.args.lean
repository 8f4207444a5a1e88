/-! arguments looked at by both; the reference asked whether it is a group -/
section AR
variable {σ : Mem} {G : GD}
def isReg (x : Int32) : Bool := decide (0 ≤ x.toInt ∧ x.toInt ≤ 9)
def isGen (n : Nat) (x : Int32) : Bool := decide (1 ≤ x.toInt ∧ x.toInt ≤ n)
theorem i32_of {x : Int32} (h : 0 ≤ x.toInt) : x = i32 x.toInt.toNat := by
  have h2 := Int32.toInt_lt x
  rw [← Int32.toInt_inj, i32_toInt (by omega)]
  omega
theorem isReg_idx {x : Int32} (h : isReg x = true) : ∃ r, r < 10 ∧ x = i32 r := by
  have h1 := of_decide_eq_true h
  exact ⟨x.toInt.toNat, by omega, i32_of h1.1⟩
theorem isGen_idx {n : Nat} {x : Int32} (h : isGen n x = true) : ∃ k, k < n ∧ x = i32 (k + 1) ∧ x - 1 = i32 k := by
  have h1 := of_decide_eq_true h
  have h2 := i32_of (x := x) (by omega)
  refine ⟨x.toInt.toNat - 1, by omega, ?_, ?_⟩
  · rw [show x.toInt.toNat - 1 + 1 = x.toInt.toNat by omega]; exact h2
  · rw [i32_1]
    have h3 := i32_sub (a := x.toInt.toNat) (b := 1) (by omega)
    rw [← h2] at h3
    exact h3
theorem isReg_of {r : Nat} (h : r < 10) : isReg (i32 r) = true := decide_eq_true (by rw [i32_toInt (by omega)]; omega)
theorem isGen_of {n k : Nat} (hn : n ≤ 6) (h : k < n) : isGen n (i32 (k + 1)) = true := decide_eq_true (by rw [i32_toInt (by omega)]; omega)
theorem lt32 {x : Int32} {k : Nat} (hk : k < 2 ^ 31) : x < i32 k ↔ x.toInt < k := by rw [Int32.lt_iff_toInt_lt, i32_toInt hk]
theorem gt32 {x : Int32} {k : Nat} (hk : k < 2 ^ 31) : i32 k < x ↔ (k : Int) < x.toInt := by rw [Int32.lt_iff_toInt_lt, i32_toInt hk]
theorem le32 {x : Int32} {k : Nat} (hk : k < 2 ^ 31) : x ≤ i32 k ↔ x.toInt ≤ k := by rw [Int32.le_iff_toInt_le, i32_toInt hk]
theorem ge32 {x : Int32} {k : Nat} (hk : k < 2 ^ 31) : i32 k ≤ x ↔ (k : Int) ≤ x.toInt := by rw [Int32.le_iff_toInt_le, i32_toInt hk]
theorem c_isReg {x : Int32} : f_X10_isRegister σ x = some (isReg x) := by
  unfold f_X10_isRegister isReg
  by_cases h1 : x < 0
  · have := (lt32 (k := 0) (by omega)).mp h1
    rw [if_pos h1, decide_eq_false (by omega)]; rfl
  · have h1' : ¬ x.toInt < 0 := fun z => h1 ((lt32 (k := 0) (by omega)).mpr z)
    rw [if_neg h1]
    by_cases h2 : 10 ≤ x
    · have := (ge32 (k := 10) (by omega)).mp h2
      rw [if_pos h2, decide_eq_false (by omega)]; rfl
    · have h2' : ¬ (10 : Int) ≤ x.toInt := fun z => h2 ((ge32 (k := 10) (by omega)).mpr z)
      rw [if_neg h2, decide_eq_true (by omega)]; rfl
theorem c_isGen (h : σ.1 2 0 = i32 (gn G)) (hn : gn G ≤ 6) {x : Int32} : f_X10_isGenerator σ x = some (isGen (gn G) x) := by
  unfold f_X10_isGenerator isGen
  by_cases h1 : x < 1
  · have := (lt32 (k := 1) (by omega)).mp h1
    rw [if_pos h1, decide_eq_false (by omega)]; rfl
  · have h1' : ¬ x.toInt < 1 := fun z => h1 ((lt32 (k := 1) (by omega)).mpr z)
    rw [if_neg h1, e_gF, h]
    by_cases h2 : i32 (gn G) < x
    · have := (gt32 (by omega)).mp h2
      rw [if_pos h2, decide_eq_false (by omega)]; rfl
    · have h2' : ¬ (gn G : Int) < x.toInt := fun z => h2 ((gt32 (by omega)).mpr z)
      rw [if_neg h2, decide_eq_true (by omega)]; rfl
theorem r_in {x : Int32} {l u : Int} (hl : L63 l) (hu : L63 u) : f_X11_isIn σ x.toInt64 (oi l) (oi u) = some (decide (l ≤ x.toInt ∧ x.toInt ≤ u)) := by
  rw [e_isIn]
  congr 1
  rw [decide_eq_decide, Int64.le_iff_toInt_le, Int64.le_iff_toInt_le, oi_toInt hl.1 hl.2, oi_toInt hu.1 hu.2, Int32.toInt_toInt64]
theorem r_inL {x : Int64} {l u : Int} (hl : L63 l) (hu : L63 u) : f_X11_isIn σ x (oi l) (oi u) = some (decide (l ≤ x.toInt ∧ x.toInt ≤ u)) := by
  rw [e_isIn]
  congr 1
  rw [decide_eq_decide, Int64.le_iff_toInt_le, Int64.le_iff_toInt_le, oi_toInt hl.1 hl.2, oi_toInt hu.1 hu.2]
theorem n64 {n : Nat} (h : n < 2 ^ 31) : (i32 n).toInt64 = oi (n : Int) := i32_64 h
theorem r_isReg {x : Int32} : f_X11_isRegister σ x = some (isReg x) := by
  unfold f_X11_isRegister
  have e := r_in (σ := σ) (x := x) (l := 0) (u := 9) ⟨by omega, by omega⟩ ⟨by omega, by omega⟩
  rw [show (0 : Int64) = oi 0 from rfl, show (9 : Int64) = oi 9 from rfl, e, e_bs]
  rfl
theorem r_isGen (hn : gn G ≤ 6) {x : Int32} : f_X11_isIn σ x.toInt64 1 (i32 (gn G)).toInt64 = some (isGen (gn G) x) := by
  have e := r_in (σ := σ) (x := x) (l := 1) (u := gn G) ⟨by omega, by omega⟩ ⟨by omega, by omega⟩
  rw [n64 (by omega), show (1 : Int64) = oi 1 from rfl, e]
  rfl
/-- a field of the reference that nothing hangs on -/
theorem SR.fld {c : Nat} {v : Int32} (h : ¬ (c = 3 ∨ c = 4 ∨ c = 9 ∨ c = 10 ∨ c = 18 ∨ c = 19 ∨ c = 20 ∨ c = 27 ∨ c = 37)) : SR σ (wI σ 306 c v) :=
  ⟨fun x hx => ⟨by funext y; rw [wI_1, if_neg (by omega)], rfl⟩, fun x hx => by funext y; rw [wI_1, if_neg (by omega)], fun d hd => by rw [wI_1, if_neg (fun z => h (by rw [← z.2]; exact hd))], rfl, fun _ _ => rfl⟩
theorem LO.row {a k : Nat} {v : Int32} (h : 306 ≤ a) : LO σ (wI σ a k v) := fun x hx => ⟨by funext y; rw [wI_1, if_neg (by omega)], rfl⟩
theorem IRef.told {S : AS} (h : IRef S σ) : IRef S (wI σ 306 0 0) := h.sr (SR.fld (by omega))
theorem FLy.lo {τ : Mem} (f : FLy σ τ) : LO σ τ := fun x hx => ⟨f.1 x (by omega) (by omega) (by omega) (by omega) (by omega) (by omega), f.2.2 x (by omega) (by omega)⟩
theorem IRef.fly {S : AS} {τ : Mem} (h : IRef S σ) (f : FLy σ τ) (hl : LaidIf τ (aG S)) : IRef S τ := by
  obtain ⟨h1, h2, h3, h4, h5, h6, h7, h8⟩ := h
  have g : ∀ x, x = 307 ∨ x = 308 ∨ x = 317 ∨ x = 318 ∨ x = 323 → τ.1 x = σ.1 x := fun x hx => f.1 x (by omega) (by omega) (by omega) (by omega) (by omega) (by omega)
  have k : ∀ c, c ≠ 6 → c ≠ 7 → c ≠ 9 → c ≠ 10 → τ.1 306 c = σ.1 306 c := f.2.1
  refine ⟨h1.eqs (g 307 (by omega)), ⟨by rw [k 4 (by omega) (by omega) (by omega) (by omega)]; exact h2.1, by rw [k 27 (by omega) (by omega) (by omega) (by omega)]; exact h2.2.1, fun i hi => by rw [g 318 (by omega)]; exact h2.2.2 i hi⟩, ⟨by rw [k 3 (by omega) (by omega) (by omega) (by omega)]; exact h3.1, fun j X hj => (h3.2 j X hj).eqs (g 308 (by omega))⟩, ⟨by rw [k 37 (by omega) (by omega) (by omega) (by omega)]; exact h4.1, fun y hy => by
    rw [g 323 (by omega)]
    exact ⟨(h4.2 y hy).1.eqs (g 323 (by omega)), (h4.2 y hy).2⟩⟩, ⟨by rw [k 18 (by omega) (by omega) (by omega) (by omega)]; exact h5.1, fun p x hp => by rw [g 317 (by omega)]; exact h5.2 p x hp⟩, ⟨by rw [k 19 (by omega) (by omega) (by omega) (by omega)]; exact h6.1, by rw [k 20 (by omega) (by omega) (by omega) (by omega)]; exact h6.2⟩, hl, h8.fly f⟩
theorem r_cons {S : AS} (h : IRef S σ) (ok : OKS S) : ∃ c τ, f_X11_isConsistent σ = some (c, τ) ∧ IRef S τ ∧ LO σ τ ∧ τ.1 306 9 = 1 ∧ Laid τ (aG S) ∧ (c = true ↔ Cons (aG S)) := by
  obtain ⟨c, τ, e, f, hl, h9, hl2, hc⟩ := r_isConsistent h.1.mg ok.1.1 h.2.2.2.2.2.2.2 h.2.2.2.2.2.2.1
  exact ⟨c, τ, e, h.fly f hl, f.lo, h9, hl2, hc⟩
/-- asked again, nothing changes -/
theorem r_again (h9 : σ.1 306 9 = 1) (hl : Laid σ G) : ∃ c, f_X11_isConsistent σ = some (c, σ) ∧ (c = true ↔ Cons G) := by
  obtain ⟨c, h1, h2, _⟩ := hl
  refine ⟨c, ?_, h2⟩
  unfold f_X11_isConsistent f_X11_lays
  rw [e_gZ (b := true) h9, if_pos rfl, e_bs, e_gZ h1]
theorem fin_q {S : AS} {c : Nat} {τ : Mem} (ok : OKS S) (hc : ICls c S σ) (hr : IRef S τ) (f : LO σ τ) : II (c + 1) τ := ⟨S, ok, (hc.lo f).up, hr⟩
/-- is it consistent, the class's answer -/
theorem c_cons {S : AS} {c : Nat} (h : ICls c S σ) : ∃ b, σ.1 40 3 = b2i b ∧ (b = true ↔ Cons (aG S)) := by
  obtain ⟨b, h1, h2, _⟩ := h.2.2.2.2.2.2.2.1
  exact ⟨b, h1, h2⟩
theorem bool_iff {a b : Bool} {P : Prop} (h : a = true ↔ P) (k : b = true ↔ P) : a = b := by
  cases a <;> cases b
  · rfl
  · exact absurd (h.mpr (k.mp rfl)) (by decide)
  · exact absurd (k.mpr (h.mp rfl)) (by decide)
  · rfl
theorem o3_oi {v : Int} (h : -999 ≤ v ∧ v ≤ 999) : (oi v).toInt32 = o3 v := by
  rw [← Int32.toInt_inj, Int64.toInt_toInt32, oi_toInt (by omega) (by omega)]
  unfold o3
  rw [Int32.toInt_ofInt]
end AR
/-! fault, collected, consistent, exponent -/
section Q1
theorem ok_14 : Ok_14 II := by
  intro c σ x hc ⟨S, ok, h, hr⟩
  have f0 : SR σ (wI σ 306 0 0) := SR.fld (by omega)
  have h6 := h.2.2.2.2.2.1
  have r6 := (hr.sr f0).2.2.2.2.2.1
  unfold f_X10_fault f_X11_fault
  rw [e_pF]
  by_cases h0 : x = 0
  · rw [if_pos h0, if_pos h0, e_gF, e_gF, h6.1, r6.1]
    exact ⟨_, _, rfl, rfl, fin_q ok h (hr.sr f0) f0.lo⟩
  · rw [if_neg h0, if_neg h0]
    by_cases h1 : x = 1
    · rw [if_pos h1, if_pos h1, e_gF, e_gF, h6.2, r6.2]
      exact ⟨_, _, rfl, rfl, fin_q ok h (hr.sr f0) f0.lo⟩
    · rw [if_neg h1, if_neg h1]
      exact ⟨_, _, rfl, rfl, fin_q ok h (hr.sr f0) f0.lo⟩
theorem ok_16 : Ok_16 II := by
  intro c σ x hc ⟨S, ok, h, hr⟩
  have f0 : SR σ (wI σ 306 0 0) := SR.fld (by omega)
  have h2 := h.2.1
  have r2 := (hr.sr f0).2.1
  have hL := ok.2.1
  unfold f_X10_collected f_X11_collected
  have e := r_in (σ := wI σ 306 0 0) (x := x) (l := 1) (u := (aT S).2.1) ⟨by omega, by omega⟩ ⟨by omega, by omega⟩
  rw [e_pF, e_gF, r2.2.1, n64 (by omega), show (1 : Int64) = oi 1 from rfl, e, e_bs]
  by_cases h1 : x < 1
  · have := (lt32 (k := 1) (by omega)).mp h1
    rw [if_pos h1, decide_eq_false (by omega), if_neg (by decide)]
    exact ⟨_, _, rfl, rfl, fin_q ok h (hr.sr f0) f0.lo⟩
  · have h1' : ¬ x.toInt < 1 := fun z => h1 ((lt32 (k := 1) (by omega)).mpr z)
    rw [if_neg h1, i32_1, e_gI ln_16 (by omega) (by omega), h2.2.1]
    by_cases h3 : i32 (aT S).2.1 < x
    · have := (gt32 (by omega)).mp h3
      rw [if_pos h3, decide_eq_false (by omega), if_neg (by decide)]
      exact ⟨_, _, rfl, rfl, fin_q ok h (hr.sr f0) f0.lo⟩
    · have h3' : ¬ ((aT S).2.1 : Int) < x.toInt := fun z => h3 ((gt32 (by omega)).mpr z)
      have h4 : x ≤ 6 := (le32 (k := 6) (by omega)).mpr (by omega)
      have hx := i32_of (x := x) (by omega)
      rw [if_neg h3, if_pos h4, decide_eq_true (by omega), if_pos rfl, hx]
      have e2 : (2 : Int32) + i32 x.toInt.toNat - i32 1 = i32 (2 + (x.toInt.toNat - 1)) := by
        rw [i32_2, i32_add, i32_sub (by omega)]
        congr 1
        omega
      rw [e2, i32_sub (by omega), e_gI ln_16 (by omega) (by omega), e_gI ln_318 (by omega) (by omega), h2.2.2 _ (by omega), r2.2.2 _ (by omega)]
      exact ⟨_, _, rfl, rfl, fin_q ok h (hr.sr f0) f0.lo⟩
theorem ok_17 : Ok_17 II := by
  intro c σ hc ⟨S, ok, h, hr⟩
  have f0 : SR σ (wI σ 306 0 0) := SR.fld (by omega)
  obtain ⟨b, hb, hB⟩ := c_cons h
  obtain ⟨b2, τ, e, hr2, lo, _, _, hB2⟩ := r_cons (hr.sr f0) ok
  have : b2 = b := bool_iff hB2 hB
  subst this
  unfold f_X10_consistent f_X11_consistent f_X10_bit
  rw [e_pF, e, e_bq, e_gZ hb]
  cases b2
  · exact ⟨_, _, rfl, rfl, fin_q ok h hr2 (f0.lo.trans lo)⟩
  · exact ⟨_, _, rfl, rfl, fin_q ok h hr2 (f0.lo.trans lo)⟩
theorem rf_5 {r : Nat} (h : r < 10) : rf 5 r = 6 + r := by
  have h1 : (List.range 10).all (fun k => rf 5 k == 6 + k) = true := by decide +kernel
  have h2 := List.all_eq_true.mp h1 r (List.mem_range.mpr h)
  exact eq_of_beq h2
theorem ln_reg {r : Nat} (h : r < 10) : ln (6 + r) = 6 := by
  have h1 : (List.range 10).all (fun k => ln (6 + k) == 6) = true := by decide +kernel
  have h2 := List.all_eq_true.mp h1 r (List.mem_range.mpr h)
  exact eq_of_beq h2
theorem e_ofRow {σ : Mem} {X : GR} (h : RB σ 307 0 X) {r i : Nat} (hr : r < 10) (hi : i < 6) : f_X11_ofRow σ (i32 r) (i32 i) = some (o3 (X.2 r i)) := by
  unfold f_X11_ofRow
  have := h.2.2.2 r i hr hi
  rw [Nat.zero_add] at this
  rw [show (223 : Int32) = i32 223 from rfl, i32_6, i32_mul, i32_add, i32_add, e_gI ln_307 (by omega) (by omega), this]
theorem ok_18 : Ok_18 II := by
  intro c σ x y hc ⟨S, ok, h, hr⟩
  have f0 : SR σ (wI σ 306 0 0) := SR.fld (by omega)
  have hr0 := hr.sr f0
  have hn : gn (aG S) ≤ 6 := ok.1.1.2.1
  unfold f_X10_exponent f_X11_exponent
  rw [c_isReg, e_bs, e_pF, r_isReg, e_bs]
  cases hx : isReg x with
  | false =>
    rw [if_neg (by decide), if_neg (by decide), e_bs]
    exact ⟨_, _, rfl, rfl, fin_q ok h hr0 f0.lo⟩
  | true =>
    obtain ⟨r, hr10, rfl⟩ := isReg_idx hx
    rw [if_pos rfl, if_pos rfl, c_isGen h.1.1.1 hn, e_bs, e_n hr0.1.mg, e_bs, r_isGen hn, e_bs]
    cases hy : isGen (gn (aG S)) y with
    | false =>
      rw [if_neg (by decide), if_neg (by decide), e_bs]
      exact ⟨_, _, rfl, rfl, fin_q ok h hr0 f0.lo⟩
    | true =>
      obtain ⟨k, hk, rfl, hk1⟩ := isGen_idx hy
      rw [if_pos rfl, if_pos rfl, hk1, e_gR ln_5 (by omega) (by omega), rf_5 hr10, e_gL (ln_reg hr10) (by omega) (by omega), e_ofRow hr0.1 hr10 (by omega), e_bs, e_bs]
      have e9 : σ.2 (6 + r) k = oi ((aX S).2 r k) := h.1.2 r k hr10 (by omega)
      rw [e9, o3_oi (ok.1.2.1 r k)]
      exact ⟨_, _, rfl, rfl, fin_q ok h hr0 f0.lo⟩
end Q1
