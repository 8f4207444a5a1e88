/-! texts: states of both readers; powers -/
section TST
variable {σ : Mem} {G : GD} {R : Nat → Nat → Int} {w : List Nat}
/-- the class's ground: laws, text, registers -/
def BC (G : GD) (R : Nat → Nat → Int) (w : List Nat) (σ : Mem) : Prop := CPoly G σ ∧ CTx σ w ∧ (∀ r, r < 10 → H6 σ (6 + r) (R r)) ∧ σ.1 2 0 = i32 (gn G)
def FRx (P : Nat → Prop) (σ τ : Mem) : Prop := (∀ x, x ≠ 144 → τ.1 x = σ.1 x) ∧ (∀ c, c ≠ 0 → c ≠ 1 → c ≠ 9 → c ≠ 10 → τ.1 144 c = σ.1 144 c) ∧ ∀ x, ¬ P x → τ.2 x = σ.2 x
theorem FRx.refl {P : Nat → Prop} : FRx P σ σ := ⟨fun _ _ => rfl, fun _ _ _ _ _ => rfl, fun _ _ => rfl⟩
theorem FRx.trans {P : Nat → Prop} {τ υ : Mem} (h : FRx P σ τ) (k : FRx P τ υ) : FRx P σ υ := ⟨fun x h1 => (k.1 x h1).trans (h.1 x h1), fun c h1 h2 h3 h4 => (k.2.1 c h1 h2 h3 h4).trans (h.2.1 c h1 h2 h3 h4), fun x h1 => (k.2.2 x h1).trans (h.2.2 x h1)⟩
theorem FRx.mono {P Q : Nat → Prop} {τ : Mem} (h : FRx P σ τ) (k : ∀ x, P x → Q x) : FRx Q σ τ := ⟨h.1, h.2.1, fun x hx => h.2.2 x (fun q => hx (k x q))⟩
theorem FRx.fld {P : Nat → Prop} {c : Nat} {v : Int32} (h : c = 0 ∨ c = 1 ∨ c = 9 ∨ c = 10) : FRx P σ (wI σ 144 c v) := ⟨fun x hx => by funext y; rw [wI_1, if_neg (fun q => hx q.1)], fun d h1 h2 h3 h4 => by rw [wI_1, if_neg (by omega)], fun _ _ => rfl⟩
theorem OL.frx {P Q : Nat → Prop} {τ : Mem} (h : OL P σ τ) (k : ∀ x, P x → Q x) : FRx Q σ τ := ⟨fun x _ => by rw [h.1], fun c _ _ _ _ => by rw [h.1], fun x hx => h.2 x (fun q => hx (k x q))⟩
theorem BC.frx {P : Nat → Prop} {τ : Mem} (h : BC G R w σ) (f : FRx P σ τ) (hP : ∀ x, P x → 72 ≤ x) : BC G R w τ := by
  obtain ⟨h1, h2, h3, h4⟩ := h
  have g : ∀ x, x < 72 → τ.2 x = σ.2 x := fun x hx => f.2.2 x (fun q => by have := hP x q; omega)
  refine ⟨fun k hk => (h1 k hk).of (f.1 _ (by omega)) (f.1 _ (by omega)) (g _ (by omega)) (f.1 _ (by omega)), ⟨h2.1, by rw [f.2.1 8 (by omega) (by omega) (by omega) (by omega)]; exact h2.2.1, fun q x hq => by rw [f.1 175 (by omega)]; exact h2.2.2 q x hq⟩, fun r hr k hk => by rw [g _ (by omega)]; exact h3 r hr k hk, by rw [f.1 2 (by omega)]; exact h4⟩
theorem BC.poly (hG : GOK G) (h : BC G R w σ) : PolyOK G σ := CPoly.ok hG h.1
def SmV (G : GD) (v : Nat → Int) : Prop := (∀ i, -999 ≤ v i ∧ v i ≤ 999) ∧ ∀ i, gn G ≤ i → v i = 0
theorem SmV.sb {v : Nat → Int} (h : SmV G v) : SB G 999 v := fun j _ _ => h.1 j
theorem SmV.z6 {v : Nat → Int} (h : SmV G v) : Z6 G v := fun k h1 _ => h.2 k h1
theorem SmV.O : SmV G O := ⟨fun _ => ⟨by show (-999 : Int) ≤ 0; omega, by show (0 : Int) ≤ 999; omega⟩, fun _ _ => rfl⟩
/-- the least row that is the same as longs -/
def nrm (G : GD) (A : Nat → Int) : Nat → Int := fun i => if i < gn G then (oi (A i)).toInt else 0
theorem nrm_sm {A : Nat → Int} (h : isEl G A = true) : SmV G (nrm G A) := ⟨fun i => by
  unfold nrm
  by_cases hi : i < gn G
  · rw [if_pos hi]; exact isEl_int h hi
  · rw [if_neg hi]; omega, fun i hi => by unfold nrm; rw [if_neg (by omega)]⟩
theorem nrm_oi {A : Nat → Int} {i : Nat} (hi : i < gn G) : oi (nrm G A i) = oi (A i) := by
  unfold nrm
  rw [if_pos hi]
  exact Int64.ofInt_toInt _
theorem nrm_congr {A B : Nat → Int} (h : EqG G A B) : nrm G A = nrm G B := by
  funext i
  unfold nrm
  by_cases hi : i < gn G
  · rw [if_pos hi, if_pos hi, h i hi]
  · rw [if_neg hi, if_neg hi]
theorem nrm_6 {A : Nat → Int} (zA : Z6 G A) {i : Nat} (hi : i < 6) : oi (nrm G A i) = oi (A i) := by
  by_cases h : i < gn G
  · exact nrm_oi h
  · rw [zA i (by omega) hi]
    unfold nrm
    rw [if_neg h]
theorem H6.nrm {a : Nat} {A : Nat → Int} (h : H6 σ a A) (zA : Z6 G A) : H6 σ a (nrm G A) := fun k hk => by rw [h k hk, nrm_6 zA hk]
theorem PS_oi {f g : SF} (h : ∀ s i, s < 100 → i < 6 → oi (f s i) = oi (g s i)) : PS σ f = PS σ g := by
  refine Prod.ext rfl ?_
  funext x y
  show (if x = 313 ∧ y < 600 then oi (f (y / 6) (y % 6)) else σ.2 x y) = (if x = 313 ∧ y < 600 then oi (g (y / 6) (y % 6)) else σ.2 x y)
  by_cases hx : x = 313 ∧ y < 600
  · rw [if_pos hx, if_pos hx, h (y / 6) (y % 6) (by omega) (by omega)]
  · rw [if_neg hx, if_neg hx]
theorem PS_nrm {f : SF} {s : Nat} {B : Nat → Int} (h : f s = B) (zB : Z6 G B) : PS σ f = PS σ (uS f s (nrm G B)) := PS_oi (fun r i _ hi => by
  by_cases hr : r = s
  · rw [hr, uS_self, h, nrm_6 zB hi]
  · rw [uS_ne hr])
/-- the reference's ground -/
def BR (G : GD) (R : Nat → Nat → Int) (w : List Nat) (ρ : Mem) : Prop := MG ρ G ∧ M0 ρ ∧ RTx ρ w ∧ RB ρ 307 0 (G, R)
def FRr (σ τ : Mem) : Prop := (∀ x, x ≠ 306 → τ.1 x = σ.1 x) ∧ (∀ c, c ≠ 19 → c ≠ 20 → c ≠ 21 → c ≠ 23 → c ≠ 24 → c ≠ 25 → τ.1 306 c = σ.1 306 c) ∧ τ.2 = σ.2
theorem FRr.refl : FRr σ σ := ⟨fun _ _ => rfl, fun _ _ _ _ _ _ _ => rfl, rfl⟩
theorem FRr.trans {τ υ : Mem} (h : FRr σ τ) (k : FRr τ υ) : FRr σ υ := ⟨fun x h1 => (k.1 x h1).trans (h.1 x h1), fun c h1 h2 h3 h4 h5 h6 => (k.2.1 c h1 h2 h3 h4 h5 h6).trans (h.2.1 c h1 h2 h3 h4 h5 h6), k.2.2.trans h.2.2⟩
theorem FRr.fld {c : Nat} {v : Int32} (h : c = 19 ∨ c = 20 ∨ c = 21 ∨ c = 23 ∨ c = 24 ∨ c = 25) : FRr σ (wI σ 306 c v) := ⟨fun x hx => by funext y; rw [wI_1, if_neg (fun q => hx q.1)], fun d h1 h2 h3 h4 h5 h6 => by rw [wI_1, if_neg (by omega)], rfl⟩
theorem BR.frr {τ : Mem} (h : BR G R w σ) (f : FRr σ τ) : BR G R w τ := by
  obtain ⟨h1, h2, h3, h4⟩ := h
  refine ⟨?_, fun m hm => by rw [f.2.2]; exact h2 m hm, ⟨h3.1, by rw [f.2.1 22 (by omega) (by omega) (by omega) (by omega) (by omega) (by omega)]; exact h3.2.1, fun q x hq => by rw [f.1 317 (by omega)]; exact h3.2.2 q x hq⟩, h4.eqs (f.1 307 (by omega))⟩
  unfold MG
  rw [f.1 307 (by omega)]
  exact h1
/-- the reference goes on, nothing wrong, nothing over -/
def LV (ρ : Mem) (d p b : Nat) : Prop := ρ.1 306 21 = i32 p ∧ ρ.1 306 20 = -1 ∧ ρ.1 306 24 = -1 ∧ ρ.1 306 25 = i32 d ∧ (ρ.1 306 23 = i32 b ∧ ρ.1 306 19 = 0)
/-- the class goes on, nothing wrong: where its latest factor ends -/
def BH (σ : Mem) (b : Nat) : Prop := σ.1 144 10 = i32 b ∧ σ.1 144 0 = 0 ∧ σ.1 144 1 = -1
theorem BH.of {τ : Mem} {b : Nat} (h : BH σ b) (e : τ.1 144 = σ.1 144) : BH τ b := by
  unfold BH
  rw [e]
  exact h
theorem BH.at {b : Nat} {v : Int32} (h : BH σ b) : BH (wI σ 144 9 v) b := ⟨by rw [wI_1, if_neg (by omega)]; exact h.1, by rw [wI_1, if_neg (by omega)]; exact h.2.1, by rw [wI_1, if_neg (by omega)]; exact h.2.2⟩
theorem BH.bh {b r : Nat} (h : BH σ b) : BH (wI σ 144 10 (i32 r)) r := ⟨by rw [wI_1, if_pos ⟨rfl, rfl⟩], by rw [wI_1, if_neg (by omega)]; exact h.2.1, by rw [wI_1, if_neg (by omega)]; exact h.2.2⟩
/-- it goes on with ones: over at q -/
def DE (w : List Nat) (ρ : Mem) (q d p : Nat) : Prop := q ≤ p ∧ p ≤ w.length ∧ ρ.1 306 21 = i32 p ∧ ρ.1 306 24 = i32 q ∧ ρ.1 306 25 = i32 d ∧ (ρ.1 306 20 = -1 ∨ ∃ t, q ≤ t ∧ t ≤ 200 ∧ ρ.1 306 20 = i32 t)
/-- something is wrong -/
def WR (ρ : Mem) (k t d : Nat) : Prop := t ≤ 200 ∧ ρ.1 306 19 = i32 k ∧ ρ.1 306 20 = i32 t ∧ ρ.1 306 24 = -1 ∧ ρ.1 306 25 = i32 d
theorem ne_m1 {t : Nat} (h : t < 2 ^ 31) : ¬ i32 t = -1 := fun q => by
  have := congrArg Int32.toInt q
  rw [i32_toInt h] at this
  have h9 : (-1 : Int32).toInt = -1 := by decide
  rw [h9] at this
  omega
theorem r_isWrong_no (h : σ.1 306 20 = -1) : f_X11_isWrong σ = some false := by
  unfold f_X11_isWrong
  rw [e_gF, h, if_pos rfl]
theorem r_isWrong_yes {t : Nat} (ht : t < 2 ^ 31) (h : σ.1 306 20 = i32 t) : f_X11_isWrong σ = some true := by
  unfold f_X11_isWrong
  rw [e_gF, h, if_neg (ne_m1 ht)]
theorem r_errs_live {d p b k t : Nat} {f : SF} (h : LV σ d p b) (ht : t ≤ 200) : ∃ ρ', f_X11_errs (PS σ f) (i32 k) (i32 t) = some (PS ρ' f) ∧ FRr σ ρ' ∧ WR ρ' k t d ∧ ρ'.1 306 21 = σ.1 306 21 := by
  have e : f_X11_isWrong (PS σ f) = some false := r_isWrong_no h.2.1
  unfold f_X11_errs
  rw [e, e_bs, if_neg (by decide), e_pF, e_pF, PS_wI, PS_wI]
  refine ⟨_, rfl, (FRr.fld (by omega)).trans (FRr.fld (by omega)), ⟨ht, ?_, ?_, ?_, ?_⟩, ?_⟩
  · rw [wI_1, if_neg (by omega), wI_1, if_pos ⟨rfl, rfl⟩]
  · rw [wI_1, if_pos ⟨rfl, rfl⟩]
  · rw [wI_1, if_neg (by omega), wI_1, if_neg (by omega)]; exact h.2.2.1
  · rw [wI_1, if_neg (by omega), wI_1, if_neg (by omega)]; exact h.2.2.2.1
  · rw [wI_1, if_neg (by omega), wI_1, if_neg (by omega)]
theorem r_errs_dead {q d p k t : Nat} {f : SF} (h : DE w σ q d p) (ht : t ≤ 200) (hq : q ≤ t) : ∃ ρ', f_X11_errs (PS σ f) (i32 k) (i32 t) = some (PS ρ' f) ∧ FRr σ ρ' ∧ DE w ρ' q d p ∧ ρ'.1 306 20 ≠ -1 := by
  obtain ⟨a1, a2, a3, a4, a5, a6⟩ := h
  unfold f_X11_errs
  rcases a6 with a6 | ⟨t', t1, t2, t3⟩
  · have e : f_X11_isWrong (PS σ f) = some false := r_isWrong_no a6
    rw [e, e_bs, if_neg (by decide), e_pF, e_pF, PS_wI, PS_wI]
    refine ⟨_, rfl, (FRr.fld (by omega)).trans (FRr.fld (by omega)), ⟨a1, a2, ?_, ?_, ?_, Or.inr ⟨t, hq, ht, ?_⟩⟩, ?_⟩
    · rw [wI_1, if_neg (by omega), wI_1, if_neg (by omega)]; exact a3
    · rw [wI_1, if_neg (by omega), wI_1, if_neg (by omega)]; exact a4
    · rw [wI_1, if_neg (by omega), wI_1, if_neg (by omega)]; exact a5
    · rw [wI_1, if_pos ⟨rfl, rfl⟩]
    · rw [wI_1, if_pos ⟨rfl, rfl⟩]; exact ne_m1 (by omega)
  · have e : f_X11_isWrong (PS σ f) = some true := r_isWrong_yes (t := t') (by omega) t3
    rw [e, e_bs, if_pos rfl]
    exact ⟨σ, rfl, FRr.refl, ⟨a1, a2, a3, a4, a5, Or.inr ⟨t', t1, t2, t3⟩⟩, by rw [t3]; exact ne_m1 (by omega)⟩
theorem r_checks_live {d p b s : Nat} {f : SF} {B : Nat → Int} (hG : GOK G) (hM : MG σ G) (h : LV σ d p b) (hp : p ≤ w.length) (hw : w.length ≤ 200) (hb : b ≤ p) (hs : s < 100) (hB : f s = B) (zB : Z6 G B) : (isEl G B = true ∧ f_X11_checks (PS σ f) (i32 s) = some (PS σ (uS f s (nrm G B)))) ∨ (isEl G B = false ∧ ∃ ρ', f_X11_checks (PS σ f) (i32 s) = some (PS ρ' (uS f s O)) ∧ FRr σ ρ' ∧ DE w ρ' b d p) := by
  have e1 : f_X11_isElement (PS σ f) (i32 s) = some (isEl G B) := by rw [p_isElement hM hG hs, hB]
  have g24 : (PS σ f).1 306 24 = -1 := h.2.2.1
  cases hel : isEl G B with
  | true =>
    refine Or.inl ⟨rfl, ?_⟩
    unfold f_X11_checks
    rw [e_gF, g24, if_pos rfl, e1, e_bs, hel, if_pos rfl, ← PS_nrm hB zB]
  | false =>
    refine Or.inr ⟨rfl, wI σ 306 24 (i32 b), ?_, FRr.fld (by omega), hb, hp, ?_, ?_, ?_, ?_⟩
    · unfold f_X11_checks
      have g23 : (PS σ f).1 306 23 = i32 b := h.2.2.2.2.1
      have e2 : f_X11_ones (PS (wI σ 306 24 (i32 b)) f) (i32 s) = some (PS (wI σ 306 24 (i32 b)) (uS f s (fun _ => 0))) := p_ones hs
      rw [e_gF, g24, if_pos rfl, e1, e_bs, hel, if_neg (by decide), e_gF, g23, e_pF, PS_wI, e2, e_bs]
      rfl
    · rw [wI_1, if_neg (by omega)]; exact h.1
    · rw [wI_1, if_pos ⟨rfl, rfl⟩]
    · rw [wI_1, if_neg (by omega)]; exact h.2.2.2.1
    · left; rw [wI_1, if_neg (by omega)]; exact h.2.1
theorem r_checks_dead {q d p s : Nat} {f : SF} (h : DE w σ q d p) (hw : w.length ≤ 200) (hs : s < 100) : f_X11_checks (PS σ f) (i32 s) = some (PS σ (uS f s O)) := by
  unfold f_X11_checks
  have g24 : (PS σ f).1 306 24 = i32 q := h.2.2.2.1
  have h1 := h.1
  have h2 := h.2.1
  rw [e_gF, g24, if_neg (ne_m1 (by omega)), p_ones hs, e_bs]
  rfl
/-! powers -/
def dig (w : List Nat) (t : Nat) : Nat := (sn w t).toInt.toNat - 48
def acc (w : List Nat) (q : Nat) : Nat → Nat
  | 0 => 0
  | n + 1 => if acc w q n ≤ 99 then 10 * acc w q n + dig w (q + n) else acc w q n
theorem dig_eq {t : Nat} (h : isDg (sn w t) = true) : dig w t ≤ 9 ∧ sn w t = i32 (48 + dig w t) := by
  have h1 := of_decide_eq_true h
  have h2 := i32_of (x := sn w t) (by omega)
  unfold dig
  refine ⟨by omega, ?_⟩
  rw [show 48 + ((sn w t).toInt.toNat - 48) = (sn w t).toInt.toNat by omega]
  exact h2
theorem acc_le {q : Nat} : ∀ n, (∀ t, q ≤ t → t < q + n → isDg (sn w t) = true) → acc w q n ≤ 999
  | 0, _ => Nat.zero_le _
  | n + 1, h => by
    have h1 := acc_le n (fun t h1 h2 => h t h1 (by omega))
    have h2 := (dig_eq (h (q + n) (by omega) (by omega))).1
    show (if acc w q n ≤ 99 then 10 * acc w q n + dig w (q + n) else acc w q n) ≤ 999
    split <;> omega
def DgE (w : List Nat) (q r : Nat) : Prop := q ≤ r ∧ r ≤ w.length ∧ (∀ t, q ≤ t → t < r → isDg (sn w t) = true) ∧ isDg (sn w r) = false
theorem DgE_ex (w : List Nat) : ∀ n p, p ≤ w.length → w.length - p ≤ n → ∃ q, DgE w p q
  | 0, p, hp, hn => ⟨p, Nat.le_refl _, hp, fun t h1 h2 => by omega, by rw [sn_out (by omega)]; decide⟩
  | n + 1, p, hp, hn => by
    cases h : isDg (sn w p) with
    | true =>
      have hlt := isDg_lt h
      obtain ⟨q, h1, h2, h3, h4⟩ := DgE_ex w n (p + 1) (by omega) (by omega)
      refine ⟨q, by omega, h2, fun t t1 t2 => ?_, h4⟩
      by_cases htp : t = p
      · rw [htp]; exact h
      · exact h3 t (by omega) t2
    | false => exact ⟨p, Nat.le_refl _, hp, fun t h1 h2 => by omega, h⟩
theorem c_digits {q r : Nat} (h : CTx σ w) (h9 : σ.1 144 9 = i32 q) (hd : DgE w q r) : loopO (fun (z28 : (Mem × Int32 × Int32)) => l_X5_readPower_81 z28.1 z28.2.1 z28.2.2) (σ, 0, 0) = some (wI σ 144 9 (i32 r), i32 (min (acc w q (r - q)) 100)) := by
  have hl := h.1
  have hr := hd.2.1
  have hqr := hd.1
  have hloop := loop_inv (body := fun (z28 : (Mem × Int32 × Int32)) => l_X5_readPower_81 z28.1 z28.2.1 z28.2.2) (fun n z => ∃ t, q + t ≤ r ∧ n = r - (q + t) ∧ z = (wI σ 144 9 (i32 (q + t)), i32 (min (acc w q t) 100), i32 t)) (fun x => x = (wI σ 144 9 (i32 r), i32 (min (acc w q (r - q)) 100))) ?_ (r - q) (σ, 0, 0) ⟨0, by omega, rfl, by rw [Nat.add_zero, wI_id h9]; rfl⟩
  · obtain ⟨x, e, rfl⟩ := hloop
    exact e
  · rintro n z ⟨t, ht, rfl, rfl⟩
    have g9 : (wI σ 144 9 (i32 (q + t))).1 144 9 = i32 (q + t) := by rw [wI_1, if_pos ⟨rfl, rfl⟩]
    have hsg := c_sign (h.at (v := i32 (q + t))) (p := q + t) (by omega) g9
    by_cases htr : q + t = r
    · right
      have htr' : t = r - q := by omega
      refine ⟨_, ?_, rfl⟩
      show l_X5_readPower_81 (wI σ 144 9 (i32 (q + t))) (i32 (min (acc w q t) 100)) (i32 t) = _
      unfold l_X5_readPower_81
      rw [hsg, e_bs, c_isDigit, e_bs, htr, hd.2.2.2, if_neg (show ¬ (false = true) by decide), htr']
      split <;> rfl
    · left
      have hdg := hd.2.2.1 (q + t) (by omega) (by omega)
      obtain ⟨d1, d2⟩ := dig_eq hdg
      have ha := acc_le (w := w) (q := q) t (fun u h1 h2 => hd.2.2.1 u h1 (by omega))
      refine ⟨(wI σ 144 9 (i32 (q + (t + 1))), i32 (min (acc w q (t + 1)) 100), i32 (t + 1)), r - (q + (t + 1)), by omega, ?_, t + 1, by omega, rfl, rfl⟩
      show l_X5_readPower_81 (wI σ 144 9 (i32 (q + t))) (i32 (min (acc w q t) 100)) (i32 t) = _
      unfold l_X5_readPower_81
      have hnum : i32 (min (acc w q t) 100) * 10 + i32 (48 + dig w (q + t)) - 48 = i32 (min (acc w q t) 100 * 10 + dig w (q + t)) := by
        rw [show (10 : Int32) = i32 10 from rfl, i32_mul, i32_add, show (48 : Int32) = i32 48 from rfl, i32_sub (by omega)]
        congr 1
        omega
      have hmin : min (min (acc w q t) 100 * 10 + dig w (q + t)) 100 = min (acc w q (t + 1)) 100 := by
        show _ = min (if acc w q t ≤ 99 then 10 * acc w q t + dig w (q + t) else acc w q t) 100
        by_cases hc : acc w q t ≤ 99
        · rw [if_pos hc]; omega
        · rw [if_neg hc]; omega
      rw [show (200 : Int32) = i32 200 from rfl, if_neg (i_nle (by omega) (by omega)), hsg, e_bs, c_isDigit, e_bs, hdg, if_pos rfl, e_bs, d2, hnum, show (100 : Int32) = i32 100 from rfl, e_min (by omega) (by omega), e_bs, hmin, e_gF, g9, e_pF, wI_wI, i32_1, i32_add, i32_add, Nat.add_assoc]
theorem r_digits {f : SF} {q r : Nat} (h : RTx σ w) (h9 : σ.1 306 21 = i32 q) (hd : DgE w q r) : loopO (fun (z24 : (Mem × Int32)) => l_X11_readPower_102 z24.1 z24.2) (PS σ f, 0) = some (PS (wI σ 306 21 (i32 r)) f, i32 (acc w q (r - q))) := by
  have hl := h.1
  have hr := hd.2.1
  have hqr := hd.1
  have hloop := loop_inv (body := fun (z24 : (Mem × Int32)) => l_X11_readPower_102 z24.1 z24.2) (fun n z => ∃ t, q + t ≤ r ∧ n = r - (q + t) ∧ z = (PS (wI σ 306 21 (i32 (q + t))) f, i32 (acc w q t))) (fun x => x = (PS (wI σ 306 21 (i32 r)) f, i32 (acc w q (r - q)))) ?_ (r - q) (PS σ f, 0) ⟨0, by omega, rfl, by rw [Nat.add_zero, wI_id h9]; rfl⟩
  · obtain ⟨x, e, rfl⟩ := hloop
    exact e
  · rintro n z ⟨t, ht, rfl, rfl⟩
    have g9 : (PS (wI σ 306 21 (i32 (q + t))) f).1 306 21 = i32 (q + t) := by rw [PS_1, wI_1, if_pos ⟨rfl, rfl⟩]
    have hsg := r_here (σ := PS (wI σ 306 21 (i32 (q + t))) f) (h.at (v := i32 (q + t))) (p := q + t) (by omega) g9
    by_cases htr : q + t = r
    · right
      have htr' : t = r - q := by omega
      refine ⟨_, ?_, rfl⟩
      show l_X11_readPower_102 (PS (wI σ 306 21 (i32 (q + t))) f) (i32 (acc w q t)) = _
      unfold l_X11_readPower_102
      rw [hsg, e_bs, r_isDigit, e_bs, htr, hd.2.2.2, if_neg (by decide), htr']
    · left
      have hdg := hd.2.2.1 (q + t) (by omega) (by omega)
      obtain ⟨d1, d2⟩ := dig_eq hdg
      have ha := acc_le (w := w) (q := q) t (fun u h1 h2 => hd.2.2.1 u h1 (by omega))
      refine ⟨(PS (wI σ 306 21 (i32 (q + (t + 1)))) f, i32 (acc w q (t + 1))), r - (q + (t + 1)), by omega, ?_, t + 1, by omega, rfl, rfl⟩
      show l_X11_readPower_102 (PS (wI σ 306 21 (i32 (q + t))) f) (i32 (acc w q t)) = _
      unfold l_X11_readPower_102
      have hv : (if i32 (acc w q t) ≤ 99 then ((f_X11_here (PS (wI σ 306 21 (i32 (q + t))) f)).bind (fun (v30 : Int32) => some (((10 * i32 (acc w q t)) + v30) - 48))) else (some (i32 (acc w q t))) : Option Int32) = some (i32 (acc w q (t + 1))) := by
        show _ = some (i32 (if acc w q t ≤ 99 then 10 * acc w q t + dig w (q + t) else acc w q t))
        by_cases hc : acc w q t ≤ 99
        · rw [if_pos (show i32 (acc w q t) ≤ 99 from i_le (b := 99) hc (by omega)), hsg, e_bs, if_pos hc, d2, show (10 : Int32) = i32 10 from rfl, i32_mul, i32_add, show (48 : Int32) = i32 48 from rfl, i32_sub (by omega)]
          congr 2
          omega
        · rw [if_neg (show ¬ i32 (acc w q t) ≤ 99 from i_nle (b := 99) (by omega) (by omega)), if_neg hc]
      rw [hsg] at hv
      rw [hsg, e_bs, r_isDigit, e_bs, hdg, if_pos rfl, hv, e_bs]
      unfold j_X11_readPower_138
      rw [e_gF, g9, e_pF, PS_wI, wI_wI, i32_1, i32_add, Nat.add_assoc]
end TST
