/-! text: the call -/
section TXC
variable {σ : Mem}
/-- what reading a text changes in the class -/
def FTt (σ τ : Mem) : Prop := (∀ x, x ≠ 0 → x ≠ 144 → x ≠ 175 → τ.1 x = σ.1 x) ∧ (∀ c, c ≠ 7 → τ.1 0 c = σ.1 0 c) ∧ ∀ x, ¬ ((72 ≤ x ∧ x ≤ 79) ∨ (146 ≤ x ∧ x ≤ 177)) → τ.2 x = σ.2 x
theorem FTt.trans {τ υ : Mem} (h : FTt σ τ) (k : FTt τ υ) : FTt σ υ := ⟨fun x a b c => (k.1 x a b c).trans (h.1 x a b c), fun c hc => (k.2.1 c hc).trans (h.2.1 c hc), fun x hx => (k.2.2 x hx).trans (h.2.2 x hx)⟩
theorem FTt.hi {τ : Mem} (h : FTt σ τ) : HI σ τ := fun x hx => ⟨h.1 x (by omega) (by omega) (by omega), h.2.2 x (by omega)⟩
theorem FRx.ftt {τ : Mem} {P : Nat → Prop} (h : FRx P σ τ) (hP : ∀ x, P x → (72 ≤ x ∧ x ≤ 79) ∨ (146 ≤ x ∧ x ≤ 177)) : FTt σ τ := ⟨fun x _ b _ => h.1 x b, fun c _ => by rw [h.1 0 (by omega)], fun x hx => h.2.2 x (fun q => hx (hP x q))⟩
theorem nilget {p x : Nat} {Q : Prop} (h : ([] : List Nat)[p]? = some x) : Q := by
  rw [List.getElem?_nil] at h
  cases h
theorem ICls.text {c : Nat} {S : AS} {τ : Mem} {F : Int32 × Int32} (h : ICls c S σ) (f : FTt σ τ) (h7 : τ.1 0 7 = i32 0) (hF : τ.1 144 0 = F.1 ∧ τ.1 144 1 = F.2) : ICls c (aX S, aT S, aA S, aI S, [], F) τ := by
  obtain ⟨h1, h2, h3, h4, h5, h6, h8⟩ := h
  have g : ∀ x, x ≠ 0 → x ≠ 144 → x ≠ 175 → τ.1 x = σ.1 x := f.1
  have g2 : ∀ x, x < 72 ∨ (80 ≤ x ∧ x < 146) ∨ 178 ≤ x → τ.2 x = σ.2 x := fun x hx => f.2.2 x (by omega)
  obtain ⟨a1, nxt, a2, a3, a4⟩ := h3
  refine ⟨h1.eqs (fun x a b => g x (by omega) (by omega) (by omega)) (fun x a b => g2 x (by omega)), h2.eqs (g 16 (by omega) (by omega) (by omega)), ⟨by rw [f.2.1 4 (by omega)]; exact a1, nxt, a2, by rw [f.2.1 5 (by omega)]; exact a3, fun j X hj => (a4 j X hj).eqs (fun x b1 b2 => g x ?_ ?_ ?_) (fun x b1 b2 => g2 x ?_)⟩, ⟨by rw [f.2.1 2 (by omega)]; exact h4.1, fun y hy => ⟨(h4.2 y hy).1.eqs (fun x a b => g x (by omega) (by omega) (by omega)) (fun x a b => g2 x (by omega)), (h4.2 y hy).2.eqs (g 32 (by omega) (by omega) (by omega))⟩⟩, ⟨h7, fun p x hp => nilget hp⟩, hF, h8.eqs (fun c _ => by rw [g 40 (by omega) (by omega) (by omega)]) (fun x hx => g x (by omega) (by omega) (by omega)) (fun x hx => g2 x (by omega))⟩
  · unfold cA at b1; omega
  · unfold cA at b1; omega
  · unfold cA at b1; omega
  · unfold cA at b1; omega
theorem ICls.over {c : Nat} {S : AS} (h : ICls c S σ) : ICls c (ovS S) (wI σ 16 0 ((aT S).1 + 1)) := by
  obtain ⟨q2, q3, q4, q5, q6⟩ := h.rest
  have g : ∀ x, x ≠ 16 → (wI σ 16 0 ((aT S).1 + 1)).1 x = σ.1 x := fun x hx => by funext y; rw [wI_1, if_neg (fun z => hx z.1)]
  exact ICls.mk (h.1.eqs (fun x a b => g x (by omega)) (fun _ _ _ => rfl)) ⟨⟨by rw [wI_1, if_pos ⟨rfl, rfl⟩]; rfl, by rw [wI_1, if_neg (by omega)]; exact q2.2.1, fun i hi => by rw [wI_1, if_neg (by omega)]; exact q2.2.2 i hi⟩, q3.eqs (g 0 (by omega)) (fun x _ _ => g x (by omega)) (fun _ _ _ => rfl), ⟨by rw [g 0 (by omega)]; exact q4.1, fun y hy => ⟨(q4.2 y hy).1.eqs (fun x a b => g x (by omega)) (fun _ _ _ => rfl), (q4.2 y hy).2.eqs (g 32 (by omega))⟩⟩, ⟨by rw [g 0 (by omega)]; exact q5.1, fun p x hp => by rw [g 34 (by omega)]; exact q5.2 p x hp⟩, by rw [g 144 (by omega)]; exact q6.1, by rw [g 144 (by omega)]; exact q6.2⟩ (h.law.eqs (fun c _ => by rw [g 40 (by omega)]) (fun x hx => g x (by omega)) (fun _ _ => rfl))
/-- what reading a text changes in the reference -/
def FRt (σ τ : Mem) : Prop := (∀ x, x ≠ 306 → τ.1 x = σ.1 x) ∧ (∀ c, c = 3 ∨ c = 4 ∨ c = 9 ∨ c = 10 ∨ c = 27 ∨ c = 37 → τ.1 306 c = σ.1 306 c) ∧ ∀ x, x ≠ 313 → τ.2 x = σ.2 x
theorem IRef.text {S : AS} {τ : Mem} {F : Int32 × Int32} (h : IRef S σ) (f : FRt σ τ) (h18 : τ.1 306 18 = i32 0) (hF : τ.1 306 19 = F.1 ∧ τ.1 306 20 = F.2) : IRef (aX S, aT S, aA S, aI S, [], F) τ := by
  obtain ⟨h1, h2, h3, h4, h5, h6, h7, h8⟩ := h
  have g : ∀ x, x ≠ 306 → τ.1 x = σ.1 x := f.1
  have k := f.2.1
  exact ⟨h1.eqs (g 307 (by omega)), ⟨by rw [k 4 (by omega)]; exact h2.1, by rw [k 27 (by omega)]; exact h2.2.1, fun i hi => by rw [g 318 (by omega)]; exact h2.2.2 i hi⟩, ⟨by rw [k 3 (by omega)]; exact h3.1, fun j X hj => (h3.2 j X hj).eqs (g 308 (by omega))⟩, ⟨by rw [k 37 (by omega)]; exact h4.1, fun y hy => by
    rw [g 323 (by omega)]
    exact ⟨(h4.2 y hy).1.eqs (g 323 (by omega)), (h4.2 y hy).2⟩⟩, ⟨h18, fun p x hp => nilget hp⟩, hF, h7.eqs (k 9 (by omega)) (k 10 (by omega)) (g 311 (by omega)) (f.2.2 312 (by omega)), fun m hm => by rw [f.2.2 314 (by omega)]; exact h8 m hm⟩
theorem FRr.frt {τ : Mem} {f g : SF} (h : FRr σ τ) : FRt (PS σ f) (PS τ g) := ⟨fun x hx => h.1 x hx, fun c hc => h.2.1 c (by omega) (by omega) (by omega) (by omega) (by omega) (by omega), fun x hx => by rw [PS_2 hx, PS_2 hx, h.2.2]⟩
theorem FRt.lo {τ : Mem} (h : FRt σ τ) : LO σ τ := fun x hx => ⟨h.1 x (by omega), h.2.2 x (by omega)⟩
theorem nil_ok {S : AS} {F : Int32 × Int32} (ok : OKS S) : OKS (aX S, aT S, aA S, aI S, [], F) := ⟨ok.1, ok.2.1, ok.2.2.1, ok.2.2.2.1, Nat.zero_le _, fun x hx => absurd hx List.not_mem_nil⟩
/-! how both begin -/
def csb (σ : Mem) : Mem := wI (wI (wI σ 0 7 0) 144 0 0) 144 1 (-1)
theorem csb_f : FTt σ (csb σ) := by
  refine ⟨fun x a b _ => ?_, fun c hc => ?_, fun x _ => rfl⟩
  · funext y
    unfold csb
    rw [wI_1, if_neg (fun q => b q.1), wI_1, if_neg (fun q => b q.1), wI_1, if_neg (fun q => a q.1)]
  · unfold csb
    rw [wI_1, if_neg (by omega), wI_1, if_neg (by omega), wI_1, if_neg (by omega)]
theorem csb_7 : (csb σ).1 0 7 = i32 0 := by
  unfold csb
  rw [wI_1, if_neg (by omega), wI_1, if_neg (by omega), wI_1, if_pos ⟨rfl, rfl⟩]
  rfl
theorem csb_F : (csb σ).1 144 0 = 0 ∧ (csb σ).1 144 1 = -1 := by
  unfold csb
  exact ⟨by rw [wI_1, if_neg (by omega), wI_1, if_pos ⟨rfl, rfl⟩], by rw [wI_1, if_pos ⟨rfl, rfl⟩]⟩
def cs8 (σ : Mem) (n : Nat) : Mem := wI (wI (cpI (wI σ 144 8 (i32 n)) 34 175 0 0 n) 144 9 0) 144 10 0
theorem cs8_x {n x : Nat} (h1 : x ≠ 144) (h2 : x ≠ 175) : (cs8 σ n).1 x = σ.1 x := by
  funext y
  unfold cs8
  rw [wI_1, if_neg (fun q => h1 q.1), wI_1, if_neg (fun q => h1 q.1), cpI_get, if_neg (fun q => h2 q.1), wI_1, if_neg (fun q => h1 q.1)]
theorem cs8_144 {n c : Nat} (h1 : c ≠ 8) (h2 : c ≠ 9) (h3 : c ≠ 10) : (cs8 σ n).1 144 c = σ.1 144 c := by
  unfold cs8
  rw [wI_1, if_neg (fun q => h3 q.2), wI_1, if_neg (fun q => h2 q.2), cpI_get, if_neg (by omega), wI_1, if_neg (fun q => h1 q.2)]
theorem cs8_8 {n : Nat} : (cs8 σ n).1 144 8 = i32 n := by
  unfold cs8
  rw [wI_1, if_neg (by omega), wI_1, if_neg (by omega), cpI_get, if_neg (by omega), wI_1, if_pos ⟨rfl, rfl⟩]
theorem cs8_9 {n : Nat} : (cs8 σ n).1 144 9 = i32 0 := by
  unfold cs8
  rw [wI_1, if_neg (by omega), wI_1, if_pos ⟨rfl, rfl⟩]
  rfl
theorem cs8_10 {n : Nat} : (cs8 σ n).1 144 10 = i32 0 := by
  unfold cs8
  rw [wI_1, if_pos ⟨rfl, rfl⟩]
  rfl
theorem cs8_175 {n y : Nat} (h : y < n) : (cs8 σ n).1 175 y = σ.1 34 y := by
  unfold cs8
  rw [wI_1, if_neg (by omega), wI_1, if_neg (by omega), cpI_get, if_pos ⟨rfl, h⟩, wI_1, if_neg (by omega)]
theorem cs8_f {n : Nat} : FTt σ (cs8 σ n) := ⟨fun x _ b c => cs8_x b c, fun c _ => by rw [cs8_x (by omega) (by omega)], fun x _ => rfl⟩
theorem c_readT {n : Nat} (hn : n ≤ 200) : f_X5_read σ 34 (i32 n) = bq (f_X5_readWord 10 (cs8 σ n) 0) (fun (b9 : Bool) (σ10 : Mem) => if b9 then gF σ10 144 9 (fun (v11 : Int32) => gF σ10 144 8 (fun (v12 : Int32) => (if v12 ≤ v11 then (some (Sum.inl σ10)) else (gF σ10 144 9 (fun (v14 : Int32) => bq (f_X5_fail σ10 1 v14) (fun (b15 : Bool) (σ16 : Mem) => if b15 then some (Sum.inl σ16) else some (Sum.inr (false, σ16))))) : Option (Mem ⊕ (Bool × Mem))).bind (Sum.elim (fun (z13 : Mem) => j_X5_read_77 z13) some))) else some (false, σ10)) := by
  have e1 : f_J9_min_7cf53 σ (Int32.ofNat (ln 34)) 200 = some (i32 200) := by
    rw [ln_34]
    exact e_min (a := 200) (b := 200) (by omega) (by omega)
  have e2 : f_J9_min_7cf53 σ (i32 n) (i32 200) = some (i32 n) := by
    rw [e_min (by omega) (by omega), Nat.min_eq_left hn]
  have e3 : f_J9_max_7cf53 σ 0 (i32 n) = some (i32 n) := by
    have := e_maxN (σ := σ) (a := 0) (b := n) (by omega) (by omega)
    rw [Nat.max_eq_right (Nat.zero_le _)] at this
    exact this
  have e4 : ∀ (τ : Mem) (f : Mem → Option (Bool × Mem)), cI τ 34 0 175 0 (i32 n) f = f (cpI τ 34 175 0 0 n) := fun τ f => by
    unfold cI
    have h6 : (i32 n).toNatClampNeg = n := i32_cl (by omega)
    have h0 : (0 : Int32).toNatClampNeg = 0 := rfl
    have h7 : ¬ i32 n < 0 := i_nlt (b := 0) (Nat.zero_le _) (by omega)
    rw [h6, h0, ln_34, ln_175, if_pos ⟨⟨by decide, by decide, h7⟩, by omega, by omega⟩]
  unfold f_X5_read
  rw [e1, e_bs, e2, e_bs, e3, e_bs, e_pF, e_gF, wI_1, if_pos ⟨rfl, rfl⟩, e4, e_pF, e_pF]
  rfl
def rst (σ : Mem) (v : Int32) : Mem := wI (wI (wI (wI (wI (wI (wI (wI (wI σ 306 0 0) 306 21 0) 306 22 v) 306 18 0) 306 19 0) 306 20 (-1)) 306 24 (-1)) 306 25 0) 306 23 0
theorem rst_c {v : Int32} (c : Nat) : (rst σ v).1 306 c = if c = 23 then 0 else if c = 25 then 0 else if c = 24 then -1 else if c = 20 then -1 else if c = 19 then 0 else if c = 18 then 0 else if c = 22 then v else if c = 21 then 0 else if c = 0 then 0 else σ.1 306 c := by
  unfold rst
  simp only [wI_1, true_and]
theorem rst_x {v : Int32} {x : Nat} (h : x ≠ 306) : (rst σ v).1 x = σ.1 x := by
  funext y
  unfold rst
  simp only [wI_1, h, false_and, if_false]
theorem rst_f {v : Int32} : FRt σ (rst σ v) := ⟨fun x hx => rst_x hx, fun c hc => by rw [rst_c, if_neg (by omega), if_neg (by omega), if_neg (by omega), if_neg (by omega), if_neg (by omega), if_neg (by omega), if_neg (by omega), if_neg (by omega), if_neg (by omega)], fun x _ => rfl⟩
/-- the reference behind its word -/
noncomputable def rtl (x : Int32) (σ14 : Mem) : Option (Bool × Mem) := (f_X11_isWrong σ14).bind (fun (b15 : Bool) => (if b15 then some σ14 else bq (f_X11_behindBlanks σ14) (fun (v31 : Int32) (σ32 : Mem) => if v31 = (-1) then (some σ32) else (gF σ32 306 21 (fun (v33 : Int32) => (f_X11_errs σ32 1 v33).bind (fun (σ34 : Mem) => some σ34)))) : Option Mem).bind (fun (z16 : Mem) => j_X11_text_95 x z16))
theorem r_text {x v : Int32} (h : σ.1 306 18 = v) : f_X11_text σ x = (f_X11_isRegister (rst σ v) x).bind (fun (b11 : Bool) => if b11 then bq (f_X11_isConsistent (rst σ v)) (fun (b12 : Bool) (σ13 : Mem) => if b12 then (f_X11_readWord 20 σ13 10).bind (fun (σ14 : Mem) => rtl x σ14) else some (false, σ13)) else some (false, rst σ v)) := by
  have e : (wI (wI σ 306 0 0) 306 21 0).1 306 18 = v := by rw [wI_1, if_neg (by omega), wI_1, if_neg (by omega)]; exact h
  unfold f_X11_text
  rw [e_pF, e_pF, e_gF, e, e_pF, e_pF, e_pF, e_pF, e_pF, e_pF, e_pF]
  rfl
variable {w : List Nat}
theorem j95_no {x : Int32} (h : σ.1 306 24 = -1) : j_X11_text_95 x σ = j_X11_text_144 x σ := by
  unfold j_X11_text_95
  rw [e_gF, h, if_pos rfl, e_bs]
theorem j144_wrong {x : Int32} {t : Nat} (ht : t < 2 ^ 31) (h : σ.1 306 20 = i32 t) : j_X11_text_144 x σ = some (false, σ) := by
  unfold j_X11_text_144
  rw [r_isWrong_yes ht h, e_bs, if_pos rfl, e_bs]
  rfl
theorem rtl_wrong {ρ : Mem} {f : SF} {x : Int32} {k t d : Nat} (h : WR ρ k t d) : rtl x (PS ρ f) = some (false, PS ρ f) := by
  have ht := h.1
  have e : f_X11_isWrong (PS ρ f) = some true := r_isWrong_yes (t := t) (by omega) h.2.2.1
  unfold rtl
  rw [e, e_bs, if_pos rfl, e_bs, j95_no (σ := PS ρ f) h.2.2.2.1, j144_wrong (σ := PS ρ f) (t := t) (by omega) h.2.2.1]
theorem rtl_end {ρ : Mem} {f : SF} {x : Int32} {q b d : Nat} (hT : RTx ρ w) (hL : LV ρ d q b) (hq : q ≤ w.length) (h32 : sn w q ≠ 32) (he : sn w q = -1) : rtl x (PS ρ f) = (bq (f_X11_gives (PS ρ f) x 10) (fun (b21 : Bool) (σ22 : Mem) => if b21 then some (Sum.inr (true, σ22)) else some (Sum.inl σ22)) : Option (Mem ⊕ (Bool × Mem))).bind (Sum.elim (fun (z20 : Mem) => j_X11_text_165 z20) some) := by
  have e : f_X11_isWrong (PS ρ f) = some false := r_isWrong_no hL.2.1
  have g : (PS ρ f).1 306 21 = i32 q := hL.1
  unfold rtl
  rw [e, e_bs, if_neg (by decide), r_skip (σ := PS ρ f) hT g (Sk_same hq h32), e_bq, wI_id g, if_pos he, e_bs, j95_no (σ := PS ρ f) hL.2.2.1]
  unfold j_X11_text_144
  rw [e, e_bs, if_neg (by decide)]
theorem rtl_more {ρ : Mem} {f : SF} {x : Int32} {q b d : Nat} (hT : RTx ρ w) (hL : LV ρ d q b) (hq : q ≤ w.length) (h32 : sn w q ≠ 32) (he : sn w q ≠ -1) : ∃ ρ', rtl x (PS ρ f) = some (false, PS ρ' f) ∧ FRr ρ ρ' ∧ WR ρ' 1 q d := by
  have hw := hT.1
  have e : f_X11_isWrong (PS ρ f) = some false := r_isWrong_no hL.2.1
  have g : (PS ρ f).1 306 21 = i32 q := hL.1
  obtain ⟨ρ', e2, fr, wr, _⟩ := r_errs_live (f := f) (k := 1) (t := q) hL (by omega)
  have e2' : f_X11_errs (PS ρ f) 1 (i32 q) = some (PS ρ' f) := e2
  refine ⟨ρ', ?_, fr, wr⟩
  unfold rtl
  rw [e, e_bs, if_neg (by decide), r_skip (σ := PS ρ f) hT g (Sk_same hq h32), e_bq, wI_id g, if_neg he, e_gF, g, e2', e_bs, e_bs, j95_no (σ := PS ρ' f) wr.2.2.2.1, j144_wrong (σ := PS ρ' f) (t := q) (by omega) wr.2.2.1]
theorem j95_dead {ρ : Mem} {f : SF} {x : Int32} {q d p : Nat} (hL : DE w ρ q d p) (hw : w.length ≤ 200) : ∃ ρ', j_X11_text_95 x (PS ρ f) = some (false, PS (wI ρ' 306 4 (ρ.1 306 4 + 1)) f) ∧ FRr ρ ρ' ∧ ρ'.1 306 19 = 5 ∧ ρ'.1 306 20 = i32 q := by
  obtain ⟨a1, a2, a3, a4, a5, a6⟩ := hL
  have g24 : (PS ρ f).1 306 24 = i32 q := a4
  have e121 : j_X11_text_121 (PS ρ f) = some (PS (wI (wI (wI ρ 306 19 5) 306 20 (i32 q)) 306 4 (ρ.1 306 4 + 1)) f) := by
    unfold j_X11_text_121
    have k24 : (PS (wI ρ 306 19 5) f).1 306 24 = i32 q := by rw [PS_1, wI_1, if_neg (by omega)]; exact a4
    have k4 : (PS (wI (wI ρ 306 19 5) 306 20 (i32 q)) f).1 306 4 = ρ.1 306 4 := by rw [PS_1, wI_1, if_neg (by omega), wI_1, if_neg (by omega)]
    rw [e_pF, PS_wI, e_gF, k24, e_pF, PS_wI, e_gF, k4, e_pF, PS_wI]
  refine ⟨wI (wI ρ 306 19 5) 306 20 (i32 q), ?_, (FRr.fld (by omega)).trans (FRr.fld (by omega)), by rw [wI_1, if_neg (by omega), wI_1, if_pos ⟨rfl, rfl⟩], by rw [wI_1, if_pos ⟨rfl, rfl⟩]⟩
  have e144 : j_X11_text_144 x (PS (wI (wI (wI ρ 306 19 5) 306 20 (i32 q)) 306 4 (ρ.1 306 4 + 1)) f) = some (false, PS (wI (wI (wI ρ 306 19 5) 306 20 (i32 q)) 306 4 (ρ.1 306 4 + 1)) f) := j144_wrong (t := q) (by omega) (by rw [PS_1, wI_1, if_neg (by omega), wI_1, if_pos ⟨rfl, rfl⟩])
  unfold j_X11_text_95
  rw [e_gF, g24, if_neg (ne_m1 (by omega))]
  rcases a6 with a6 | ⟨t, t1, t2, t3⟩
  · have e : f_X11_isWrong (PS ρ f) = some false := r_isWrong_no a6
    rw [e, e_bs, if_neg (by decide), e_bs]
    show (j_X11_text_121 (PS ρ f)).bind _ = _
    rw [e121, e_bs, e144]
  · have e : f_X11_isWrong (PS ρ f) = some true := r_isWrong_yes (t := t) (by omega) t3
    have g20 : (PS ρ f).1 306 20 = i32 t := t3
    rw [e, e_bs, if_pos rfl, e_gF, g20, e_gF, g24, if_neg (i_nlt t1 (by omega)), e_bs]
    show (j_X11_text_121 (PS ρ f)).bind _ = _
    rw [e121, e_bs, e144]
theorem rtl_dead {ρ : Mem} {f : SF} {x : Int32} {q d p : Nat} (hT : RTx ρ w) (hL : DE w ρ q d p) : ∃ ρ', rtl x (PS ρ f) = some (false, PS (wI ρ' 306 4 (ρ.1 306 4 + 1)) f) ∧ FRr ρ ρ' ∧ ρ'.1 306 19 = 5 ∧ ρ'.1 306 20 = i32 q := by
  have hw := hT.1
  have hL' := hL
  obtain ⟨a1, a2, a3, a4, a5, a6⟩ := hL
  rcases a6 with a6 | ⟨t, t1, t2, t3⟩
  · have e : f_X11_isWrong (PS ρ f) = some false := r_isWrong_no a6
    have g : (PS ρ f).1 306 21 = i32 p := a3
    obtain ⟨q1, hs⟩ := Sk_ex w (w.length - p) p a2 (Nat.le_refl _)
    have de1 := hL'.at hs.1 hs.2.1
    have b1 := hs.1
    have b2 := hs.2.1
    by_cases he : sn w q1 = -1
    · obtain ⟨ρ', e1, fr, r1, r2⟩ := j95_dead (f := f) (x := x) de1 hw
      refine ⟨ρ', ?_, (FRr.fld (by omega)).trans fr, r1, r2⟩
      unfold rtl
      rw [e, e_bs, if_neg (by decide), r_skip (σ := PS ρ f) hT g hs, e_bq, PS_wI, if_pos he, e_bs, e1, wI_1, if_neg (by omega)]
    · obtain ⟨ρ2, e2, fr2, de2, _⟩ := r_errs_dead (f := f) (k := 1) (t := q1) de1 (by omega) (by omega)
      have e2' : f_X11_errs (PS (wI ρ 306 21 (i32 q1)) f) 1 (i32 q1) = some (PS ρ2 f) := e2
      obtain ⟨ρ', e1, fr, r1, r2⟩ := j95_dead (f := f) (x := x) de2 hw
      have k4 : ρ2.1 306 4 = ρ.1 306 4 := by rw [fr2.2.1 4 (by omega) (by omega) (by omega) (by omega) (by omega) (by omega), wI_1, if_neg (by omega)]
      have g2 : (PS (wI ρ 306 21 (i32 q1)) f).1 306 21 = i32 q1 := by rw [PS_1, wI_1, if_pos ⟨rfl, rfl⟩]
      refine ⟨ρ', ?_, (FRr.fld (by omega)).trans (fr2.trans fr), r1, r2⟩
      unfold rtl
      rw [e, e_bs, if_neg (by decide), r_skip (σ := PS ρ f) hT g hs, e_bq, PS_wI, if_neg he, e_gF, g2, e2', e_bs, e_bs, e1, k4]
  · have e : f_X11_isWrong (PS ρ f) = some true := r_isWrong_yes (t := t) (by omega) t3
    obtain ⟨ρ', e1, fr, r1, r2⟩ := j95_dead (f := f) (x := x) hL' hw
    refine ⟨ρ', ?_, fr, r1, r2⟩
    unfold rtl
    rw [e, e_bs, if_pos rfl, e_bs, e1]
end TXC
