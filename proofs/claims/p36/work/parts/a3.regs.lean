/-! registers looked up, results kept -/
section RGS
variable {σ : Mem} {G : GD}
theorem OL.sc {P : Nat → Prop} {τ : Mem} (h : OL P σ τ) (hP : ∀ x, P x → (35 ≤ x ∧ x ≤ 47) ∨ (72 ≤ x ∧ x ≤ 127) ∨ (132 ≤ x ∧ x ≤ 177)) : SC σ τ :=
  ⟨fun x _ => by rw [h.1], fun c _ => by rw [h.1], fun c _ => by rw [h.1], fun x hx => h.2 x (fun z => by have := hP x z; omega)⟩
/-- what a register becomes -/
def upR (G : GD) (R : Nat → Nat → Int) (r : Nat) (A : Nat → Int) : Nat → Nat → Int := fun q i => if q = r then (if i < gn G then (oi (A i)).toInt else 0) else R q i
theorem isEl_congr {A B : Nat → Int} (h : EqG G A B) : isEl G A = isEl G B := by
  unfold isEl
  rw [decide_eq_decide]
  exact ⟨fun z k hk => by rw [← h k hk]; exact z k hk, fun z k hk => by rw [h k hk]; exact z k hk⟩
theorem isEl_int {A : Nat → Int} (h : isEl G A = true) {k : Nat} (hk : k < gn G) : -999 ≤ (oi (A k)).toInt ∧ (oi (A k)).toInt ≤ 999 := by
  unfold isEl at h
  rw [decide_eq_true_eq] at h
  have h1 := h k hk
  have a1 := Int64.le_iff_toInt_le.mp h1.1
  have a2 := Int64.le_iff_toInt_le.mp h1.2
  have e1 : (-999 : Int64).toInt = -999 := by decide
  have e2 : (999 : Int64).toInt = 999 := by decide
  omega
/-- a register made, an act kept -/
def nS (S : AS) (r : Nat) (A : Nat → Int) : AS := ((aG S, upR (aG S) (aR S) r A), aT S, psh (aX S) (aA S), aI S, aP S, aF S)
/-- OVER counted -/
def ovS (S : AS) : AS := (aX S, ((aT S).1 + 1, (aT S).2), aA S, aI S, aP S, aF S)
theorem nS_ok {S : AS} {r : Nat} {A : Nat → Int} (ok : OKS S) (h : isEl (aG S) A = true) : OKS (nS S r A) := by
  refine ⟨⟨ok.1.1, fun q i => ?_, fun q i hi => ?_⟩, ok.2.1, ⟨?_, fun X hX => ?_⟩, ok.2.2.2⟩
  · show -999 ≤ upR _ _ _ _ q i ∧ upR _ _ _ _ q i ≤ 999
    unfold upR
    by_cases h1 : q = r
    · rw [if_pos h1]
      by_cases h2 : i < gn (aG S)
      · rw [if_pos h2]; exact isEl_int h h2
      · rw [if_neg h2]; omega
    · rw [if_neg h1]; exact ok.1.2.1 q i
  · show upR _ _ _ _ q i = 0
    unfold upR
    by_cases h1 : q = r
    · rw [if_pos h1, if_neg (show ¬ i < gn (aG S) from Nat.not_lt.mpr hi)]
    · rw [if_neg h1]; exact ok.1.2.2 q i hi
  · show (psh (aX S) (aA S)).length ≤ 8
    rw [psh_len]; omega
  · have h1 : X ∈ aX S :: aA S := List.mem_of_mem_take hX
    rcases List.mem_cons.mp h1 with h | h
    · rw [h]; exact ok.1
    · exact ok.2.2.1.2 X h
theorem ovS_ok {S : AS} (ok : OKS S) : OKS (ovS S) := ok
theorem reg_sb {S : AS} (ok : OKS S) (r : Nat) : SB (aG S) 999 (aR S r) := fun j _ _ => ok.1.2.1 r j
theorem reg_z6 {S : AS} (ok : OKS S) (r : Nat) : Z6 (aG S) (aR S r) := fun k h1 _ => ok.1.2.2 r k h1
theorem SB.w {B : Int} {A : Nat → Int} (hG : GOK G) (h : SB G B A) (hB : B ≤ 2 ^ 31) : W1 G A := h.w1 hG hB
/-- what the class finds in a register -/
theorem c_reg {c : Nat} {S : AS} (h : ICls c S σ) {r : Nat} (hr : r < 10) : H6 σ (6 + r) (aR S r) := fun k hk => h.1.2 r k hr hk
theorem c_poly {c : Nat} {S : AS} (h : ICls c S σ) (ok : OKS S) (hc : Cons (aG S)) : PolyOK (aG S) σ := CPoly.ok ok.1.1 (c_ct h hc)
theorem c_areUsable {b : Bool} (hb : σ.1 40 3 = b2i b) {x y : Int32} : f_X10_areUsable σ x y = some (isReg x && (isReg y && b)) := by
  unfold f_X10_areUsable
  rw [c_isReg, e_bs]
  cases isReg x with
  | false => rfl
  | true =>
    rw [if_pos rfl, c_isReg, e_bs]
    cases isReg y with
    | false => rfl
    | true =>
      rw [if_pos rfl, e_gZ hb]
      cases b <;> rfl
theorem PS.sr {f : SF} : SR σ (PS σ f) := ⟨fun x hx => ⟨rfl, PS_2 (by omega)⟩, fun x _ => rfl, fun c _ => rfl, PS_2 (by omega), fun m _ => by rw [PS_2 (by omega)]⟩
theorem IRef.base {S : AS} {f : SF} (h : IRef S (PS σ f)) : IRef S σ := h.sr ⟨fun x hx => ⟨rfl, (PS_2 (by omega)).symm⟩, fun x _ => rfl, fun c _ => rfl, (PS_2 (by omega)).symm, fun m _ => by rw [PS_2 (by omega)]⟩
theorem IRef.over {S : AS} (h : IRef S σ) : IRef (ovS S) (wI σ 306 4 ((aT S).1 + 1)) := by
  obtain ⟨h1, h2, h3, h4, h5, h6, h7, h8⟩ := h
  have g : ∀ x, x ≠ 306 → (wI σ 306 4 ((aT S).1 + 1)).1 x = σ.1 x := fun x hx => by funext y; rw [wI_1, if_neg (fun z => hx z.1)]
  have k : ∀ c, c ≠ 4 → (wI σ 306 4 ((aT S).1 + 1)).1 306 c = σ.1 306 c := fun c hc => by rw [wI_1, if_neg (fun z => hc z.2)]
  exact ⟨h1.eqs (g 307 (by omega)), ⟨by rw [wI_1, if_pos ⟨rfl, rfl⟩]; rfl, by rw [k 27 (by omega)]; exact h2.2.1, fun i hi => by rw [g 318 (by omega)]; exact h2.2.2 i hi⟩, ⟨by rw [k 3 (by omega)]; exact h3.1, fun j Y hj => (h3.2 j Y hj).eqs (g 308 (by omega))⟩, ⟨by rw [k 37 (by omega)]; exact h4.1, fun y hy => by
    rw [g 323 (by omega)]
    exact ⟨(h4.2 y hy).1.eqs (g 323 (by omega)), (h4.2 y hy).2⟩⟩, ⟨by rw [k 18 (by omega)]; exact h5.1, fun p x hp => by rw [g 317 (by omega)]; exact h5.2 p x hp⟩, ⟨by rw [k 19 (by omega)]; exact h6.1, by rw [k 20 (by omega)]; exact h6.2⟩, h7.eqs (k 9 (by omega)) (k 10 (by omega)) (g 311 (by omega)) rfl, h8⟩
/-- a result kept, by the class -/
theorem c_keep {c : Nat} {S : AS} {A : Nat → Int} (h : ICls c S σ) (ok : OKS S) (hA : H6 σ 176 A) (zA : Z6 (aG S) A) {r : Nat} (hr : r < 10) (hel : isEl (aG S) A = true) : ∃ τ, f_X10_keep σ (i32 r) = some (true, τ) ∧ ICls (c + 1) (nS S r A) τ ∧ HI σ τ := by
  have hG : GOK (aG S) := ok.1.1
  unfold f_X10_keep
  obtain ⟨σ3, e3, a3, f3⟩ := c_beginAct h.1 h.2.2.1 ok.2.2.1.1
  have l176 : σ3.2 176 = σ.2 176 := f3.2.1 176 (by omega)
  obtain ⟨τ, e4, o4, v4⟩ := c_copyRow (σ := σ3) (a := 176) (b := 6 + r) ln_176 (ln_reg hr)
  rw [c_isReg, e_bs, isReg_of hr, if_pos rfl, c_isElement hG ln_176 hA zA, e_bs, hel, if_pos rfl, e3, e_bs, e_gR ln_5 hr (by omega), rf_5 hr, e4, e_bs]
  obtain ⟨q2, q3, q4, q5, q6⟩ := h.rest
  have g : ∀ x, x ≠ 0 → x < 178 ∨ 305 < x → τ.1 x = σ.1 x := fun x h0 hx => by rw [o4.1]; exact f3.1 x h0 hx
  have g2 : ∀ x, (x < 178 ∨ 305 < x) → x ≠ 6 + r → τ.2 x = σ.2 x := fun x hx hn => by rw [o4.2 x hn]; exact f3.2.1 x hx
  have g0 : ∀ c, c ≠ 4 → c ≠ 5 → τ.1 0 c = σ.1 0 c := fun c c1 c2 => by rw [o4.1]; exact f3.2.2 c c1 c2
  refine ⟨τ, rfl, ICls.up (ICls.mk ⟨?_, fun q i hq hi => ?_⟩ ⟨q2.eqs (g 16 (by omega) (by omega)), a3.eqs (by rw [o4.1]) (fun x b1 b2 => by rw [o4.1]) (fun x b1 b2 => o4.2 x (by omega)), ⟨by rw [g0 2 (by omega) (by omega)]; exact q4.1, fun y hy => ⟨(q4.2 y hy).1.eqs (fun x a b => g x (by omega) (by omega)) (fun x a b => g2 x (by omega) (by omega)), (q4.2 y hy).2.eqs (g 32 (by omega) (by omega))⟩⟩, ⟨by rw [g0 7 (by omega) (by omega)]; exact q5.1, fun p x hp => by rw [g 34 (by omega) (by omega)]; exact q5.2 p x hp⟩, by rw [g 144 (by omega) (by omega)]; exact q6.1, by rw [g 144 (by omega) (by omega)]; exact q6.2⟩ (h.law.eqs (fun c _ => by rw [g 40 (by omega) (by omega)]) (fun x hx => g x (by omega) (by omega)) (fun x hx => g2 x (by omega) (by omega)))), fun x hx => ⟨g x (by omega) (by omega), g2 x (by omega) (by omega)⟩⟩
  · have := h.1.1
    show CG τ 2 (aG S)
    unfold CG
    rw [g 2 (by omega) (by omega), g (2 + 1) (by omega) (by omega), g (2 + 2) (by omega) (by omega)]
    exact this
  · show τ.2 (6 + q) i = oi (upR (aG S) (aR S) r A q i)
    unfold upR
    by_cases h1 : q = r
    · rw [if_pos h1, h1, v4 i hi, l176, hA i hi]
      by_cases h2 : i < gn (aG S)
      · rw [if_pos h2]; exact (Int64.ofInt_toInt _).symm
      · rw [if_neg h2, zA i (by omega) hi]
    · rw [if_neg h1, g2 _ (by omega) (by omega)]
      exact h.1.2 q i hq hi
theorem c_keepCounted {c : Nat} {S : AS} {A : Nat → Int} (h : ICls c S σ) (ok : OKS S) (hA : H6 σ 176 A) (zA : Z6 (aG S) A) {r : Nat} (hr : r < 10) : ∃ τ, f_X10_keepCounted σ (i32 r) = some (isEl (aG S) A, τ) ∧ ICls (c + 1) (if isEl (aG S) A = true then nS S r A else ovS S) τ ∧ HI σ τ := by
  have hG : GOK (aG S) := ok.1.1
  unfold f_X10_keepCounted
  rw [c_isElement hG ln_176 hA zA, e_bs]
  cases hel : isEl (aG S) A with
  | true =>
    obtain ⟨τ, e, i, hi⟩ := c_keep h ok hA zA hr hel
    rw [if_pos rfl, if_pos rfl, e, e_bq]
    exact ⟨τ, rfl, i, hi⟩
  | false =>
    obtain ⟨q2, q3, q4, q5, q6⟩ := h.rest
    rw [if_neg (by decide), if_neg (by decide), i32_0, e_gI ln_16 (by omega) (by omega), e_pI ln_16 (by omega) (by omega), q2.1]
    have g : ∀ x, x ≠ 16 → (wI σ 16 0 ((aT S).1 + 1)).1 x = σ.1 x := fun x hx => by funext y; rw [wI_1, if_neg (fun z => hx z.1)]
    refine ⟨_, rfl, ICls.up (ICls.mk (h.1.eqs (fun x a b => g x (by omega)) (fun _ _ _ => rfl)) ⟨⟨by rw [wI_1, if_pos ⟨rfl, rfl⟩]; rfl, by rw [wI_1, if_neg (by omega)]; exact q2.2.1, fun i hi => by rw [wI_1, if_neg (by omega)]; exact q2.2.2 i hi⟩, q3.eqs (g 0 (by omega)) (fun x _ _ => g x (by omega)) (fun _ _ _ => rfl), ⟨by rw [g 0 (by omega)]; exact q4.1, fun y hy => ⟨(q4.2 y hy).1.eqs (fun x a b => g x (by omega)) (fun _ _ _ => rfl), (q4.2 y hy).2.eqs (g 32 (by omega))⟩⟩, ⟨by rw [g 0 (by omega)]; exact q5.1, fun p x hp => by rw [g 34 (by omega)]; exact q5.2 p x hp⟩, by rw [g 144 (by omega)]; exact q6.1, by rw [g 144 (by omega)]; exact q6.2⟩ (h.law.eqs (fun c _ => by rw [g 40 (by omega)]) (fun x hx => g x (by omega)) (fun _ _ => rfl))), fun x hx => ⟨g x (by omega), rfl⟩⟩
end RGS

