/-! texts: signs, blanks, digits; both readers -/
section SGN
variable {σ : Mem} {w : List Nat}
def sn (w : List Nat) (p : Nat) : Int32 := match w[p]? with
  | some x => i32 x
  | none => -1
theorem sn_in {p x : Nat} (h : w[p]? = some x) : sn w p = i32 x := by unfold sn; rw [h]
theorem sn_out {p : Nat} (h : w.length ≤ p) : sn w p = -1 := by
  unfold sn
  rw [List.getElem?_eq_none h]
def Sk (w : List Nat) (p q : Nat) : Prop := p ≤ q ∧ q ≤ w.length ∧ (∀ t, p ≤ t → t < q → sn w t = 32) ∧ sn w q ≠ 32
theorem Sk_ex (w : List Nat) : ∀ n p, p ≤ w.length → w.length - p ≤ n → ∃ q, Sk w p q
  | 0, p, hp, hn => ⟨p, Nat.le_refl _, hp, fun t h1 h2 => by omega, by rw [sn_out (by omega)]; decide⟩
  | n + 1, p, hp, hn => by
    by_cases h : sn w p = 32
    · have hlt : p < w.length := by
        refine Classical.byContradiction (fun z => ?_)
        rw [sn_out (by omega)] at h
        exact absurd h (by decide)
      obtain ⟨q, h1, h2, h3, h4⟩ := Sk_ex w n (p + 1) (by omega) (by omega)
      refine ⟨q, by omega, h2, fun t t1 t2 => ?_, h4⟩
      by_cases htp : t = p
      · rw [htp]; exact h
      · exact h3 t (by omega) t2
    · exact ⟨p, Nat.le_refl _, hp, fun t h1 h2 => by omega, h⟩
theorem Sk_go {p q : Nat} (h : Sk w p q) (hpq : p < q) : Sk w (p + 1) q := ⟨by omega, h.2.1, fun t t1 t2 => h.2.2.1 t (by omega) t2, h.2.2.2⟩
theorem Sk_same {p : Nat} (hp : p ≤ w.length) (h : sn w p ≠ 32) : Sk w p p := ⟨Nat.le_refl _, hp, fun t h1 h2 => by omega, h⟩
theorem Sk_uniq {p q r : Nat} (h : Sk w p q) (k : Sk w p r) : q = r := by
  rcases Nat.lt_trichotomy q r with c | c | c
  · exact absurd (k.2.2.1 q h.1 c) h.2.2.2
  · exact c
  · exact absurd (h.2.2.1 r k.1 c) k.2.2.2
theorem wI_wI {a k : Nat} {v u : Int32} : wI (wI σ a k v) a k u = wI σ a k u := by
  refine Prod.ext ?_ rfl
  funext x y
  show (if x = a ∧ y = k then u else if x = a ∧ y = k then v else σ.1 x y) = if x = a ∧ y = k then u else σ.1 x y
  by_cases h : x = a ∧ y = k
  · rw [if_pos h, if_pos h]
  · rw [if_neg h, if_neg h, if_neg h]
theorem wI_id {a k : Nat} {v : Int32} (h : σ.1 a k = v) : wI σ a k v = σ := by
  refine Prod.ext ?_ rfl
  funext x y
  show (if x = a ∧ y = k then v else σ.1 x y) = σ.1 x y
  by_cases hx : x = a ∧ y = k
  · rw [if_pos hx, hx.1, hx.2, h]
  · rw [if_neg hx]
/-- the class's reader has this text -/
def CTx (σ : Mem) (w : List Nat) : Prop := w.length ≤ 200 ∧ σ.1 144 8 = i32 w.length ∧ ∀ (q x : Nat), w[q]? = some x → σ.1 175 q = i32 x
def RTx (σ : Mem) (w : List Nat) : Prop := w.length ≤ 200 ∧ σ.1 306 22 = i32 w.length ∧ ∀ (q x : Nat), w[q]? = some x → σ.1 317 q = i32 x
theorem CTx.at {v : Int32} (h : CTx σ w) : CTx (wI σ 144 9 v) w := ⟨h.1, by rw [wI_1, if_neg (by omega)]; exact h.2.1, fun q x hq => by rw [wI_1, if_neg (by omega)]; exact h.2.2 q x hq⟩
theorem c_sign {p : Nat} (h : CTx σ w) (hp : p ≤ w.length) (h9 : σ.1 144 9 = i32 p) : f_X5_signHere σ = some (sn w p) := by
  have hl := h.1
  unfold f_X5_signHere
  rw [e_gF, h9, if_neg (show ¬ i32 p < 0 from i_nlt (b := 0) (by omega) (by omega)), e_gF, h9, e_gF, h.2.1]
  by_cases hpl : p < w.length
  · have hg : w[p]? = some w[p] := List.getElem?_eq_getElem hpl
    rw [if_neg (i_nle hpl (by omega)), e_gF, h9, e_gI ln_175 (by omega) (by omega), h.2.2 p _ hg, e_bs, sn_in hg]
    rfl
  · rw [if_pos (i_le (by omega) (by omega)), e_bs, sn_out (by omega)]
    rfl
theorem c_skip {p q : Nat} (h : CTx σ w) (h9 : σ.1 144 9 = i32 p) (hs : Sk w p q) : f_X5_skipBlanks σ = some (sn w q, wI σ 144 9 (i32 q)) := by
  have hl := h.1
  have hq := hs.2.1
  unfold f_X5_skipBlanks
  have hloop := loop_inv (body := fun (z4 : (Mem × Int32)) => l_X5_skipBlanks_2 z4.1 z4.2) (fun n z => ∃ t, p ≤ t ∧ t ≤ q ∧ n = q - t ∧ z = (wI σ 144 9 (i32 t), i32 (t - p))) (fun τ => τ = wI σ 144 9 (i32 q)) ?_ (q - p) (σ, 0) ⟨p, Nat.le_refl _, hs.1, rfl, by rw [wI_id h9, Nat.sub_self]; rfl⟩
  · obtain ⟨τ, e, rfl⟩ := hloop
    rw [e, e_bs]
    unfold j_X5_skipBlanks_34
    rw [c_sign (h.at) hq (by rw [wI_1, if_pos ⟨rfl, rfl⟩]), e_bs]
  · rintro n z ⟨t, h1, h2, rfl, rfl⟩
    have hbody : l_X5_skipBlanks_2 (wI σ 144 9 (i32 t)) (i32 (t - p)) = if i32 200 ≤ i32 (t - p) then some (Sum.inr (wI σ 144 9 (i32 t))) else if sn w t = 32 then some (Sum.inl (wI σ 144 9 (i32 t + 1), i32 (t - p) + 1)) else some (Sum.inr (wI σ 144 9 (i32 t))) := by
      unfold l_X5_skipBlanks_2
      have g9 : (wI σ 144 9 (i32 t)).1 144 9 = i32 t := by rw [wI_1, if_pos ⟨rfl, rfl⟩]
      rw [c_sign (h.at) (by omega) g9, e_bs, e_gF, g9, e_pF, wI_wI]
      rfl
    by_cases htq : t = q
    · right
      subst htq
      refine ⟨_, ?_, rfl⟩
      show l_X5_skipBlanks_2 (wI σ 144 9 (i32 t)) (i32 (t - p)) = _
      rw [hbody, if_neg hs.2.2.2]
      split <;> rfl
    · left
      refine ⟨(wI σ 144 9 (i32 (t + 1)), i32 (t + 1 - p)), q - (t + 1), by omega, ?_, t + 1, by omega, by omega, rfl, rfl⟩
      show l_X5_skipBlanks_2 (wI σ 144 9 (i32 t)) (i32 (t - p)) = _
      rw [hbody, if_neg (i_nle (by omega) (by omega)), if_pos (hs.2.2.1 t h1 (by omega)), i32_1, i32_add, i32_add, show t - p + 1 = t + 1 - p by omega]
theorem r_here {p : Nat} (h : RTx σ w) (hp : p ≤ w.length) (h9 : σ.1 306 21 = i32 p) : f_X11_here σ = some (sn w p) := by
  have hl := h.1
  unfold f_X11_here
  rw [e_gF, h9, e_gF, h.2.1]
  by_cases hpl : p < w.length
  · have hg : w[p]? = some w[p] := List.getElem?_eq_getElem hpl
    rw [if_neg (i_nle hpl (by omega)), e_gF, h9, e_gI ln_317 (by omega) (by omega), h.2.2 p _ hg, sn_in hg]
  · rw [if_pos (i_le (by omega) (by omega)), sn_out (by omega)]
theorem RTx.at {v : Int32} (h : RTx σ w) : RTx (wI σ 306 21 v) w := ⟨h.1, by rw [wI_1, if_neg (by omega)]; exact h.2.1, fun q x hq => by rw [wI_1, if_neg (by omega)]; exact h.2.2 q x hq⟩
theorem r_skip {p q : Nat} (h : RTx σ w) (h9 : σ.1 306 21 = i32 p) (hs : Sk w p q) : f_X11_behindBlanks σ = some (sn w q, wI σ 306 21 (i32 q)) := by
  have hl := h.1
  have hq := hs.2.1
  unfold f_X11_behindBlanks
  have hloop := loop_inv (body := fun (z3 : Mem) => l_X11_behindBlanks_0 z3) (fun n z => ∃ t, p ≤ t ∧ t ≤ q ∧ n = q - t ∧ z = wI σ 306 21 (i32 t)) (fun τ => τ = wI σ 306 21 (i32 q)) ?_ (q - p) σ ⟨p, Nat.le_refl _, hs.1, rfl, (wI_id h9).symm⟩
  · obtain ⟨τ, e, rfl⟩ := hloop
    rw [e, e_bs]
    unfold j_X11_behindBlanks_22
    rw [r_here h.at hq (by rw [wI_1, if_pos ⟨rfl, rfl⟩]), e_bs]
  · rintro n z ⟨t, h1, h2, rfl, rfl⟩
    have hbody : l_X11_behindBlanks_0 (wI σ 306 21 (i32 t)) = if sn w t = 32 then some (Sum.inl (wI σ 306 21 (i32 t + 1))) else some (Sum.inr (wI σ 306 21 (i32 t))) := by
      unfold l_X11_behindBlanks_0
      have g9 : (wI σ 306 21 (i32 t)).1 306 21 = i32 t := by rw [wI_1, if_pos ⟨rfl, rfl⟩]
      rw [r_here h.at (by omega) g9, e_bs, e_gF, g9, e_pF, wI_wI]
    by_cases htq : t = q
    · right
      subst htq
      refine ⟨_, ?_, rfl⟩
      rw [hbody, if_neg hs.2.2.2]
    · left
      refine ⟨wI σ 306 21 (i32 (t + 1)), q - (t + 1), by omega, ?_, t + 1, by omega, by omega, rfl, rfl⟩
      rw [hbody, if_pos (hs.2.2.1 t h1 (by omega)), i32_1, i32_add]
/-- signs are bytes or nothing -/
theorem sn_cases (hb : ∀ x : Nat, x ∈ w → x < 256) (p : Nat) : (∃ x, w[p]? = some x ∧ x < 256 ∧ p < w.length ∧ sn w p = i32 x) ∨ (w.length ≤ p ∧ sn w p = -1) := by
  by_cases h : p < w.length
  · have hg : w[p]? = some w[p] := List.getElem?_eq_getElem h
    exact Or.inl ⟨w[p], hg, hb _ (List.getElem_mem h), h, sn_in hg⟩
  · exact Or.inr ⟨by omega, sn_out (by omega)⟩
theorem sn_lt {p : Nat} {x : Int32} (h : sn w p = x) (hx : x ≠ -1) : p < w.length := by
  refine Classical.byContradiction (fun q => ?_)
  rw [sn_out (by omega)] at h
  exact hx h.symm
/-- the range of a digit -/
def isDg (x : Int32) : Bool := decide (48 ≤ x.toInt ∧ x.toInt ≤ 57)
theorem c_isDigit {x : Int32} : f_X5_isDigit σ x = some (isDg x) := by
  unfold f_X5_isDigit isDg
  by_cases h1 : x < 48
  · have := (lt32 (k := 48) (by omega)).mp h1
    rw [if_pos h1, e_bs, decide_eq_false (by omega)]; rfl
  · have h1' : ¬ x.toInt < 48 := fun q => h1 ((lt32 (k := 48) (by omega)).mpr q)
    rw [if_neg h1]
    by_cases h2 : 57 < x
    · have := (gt32 (k := 57) (by omega)).mp h2
      rw [if_pos h2, e_bs, decide_eq_false (by omega)]; rfl
    · have h2' : ¬ (57 : Int) < x.toInt := fun q => h2 ((gt32 (k := 57) (by omega)).mpr q)
      rw [if_neg h2, e_bs, decide_eq_true (by omega)]; rfl
theorem r_isDigit {x : Int32} : f_X11_isDigit σ x = some (isDg x) := by
  unfold f_X11_isDigit isDg
  by_cases h1 : x < 48
  · have := (lt32 (k := 48) (by omega)).mp h1
    rw [if_pos h1, e_bs, decide_eq_false (by omega)]; rfl
  · have h1' : ¬ x.toInt < 48 := fun q => h1 ((lt32 (k := 48) (by omega)).mpr q)
    rw [if_neg h1]
    by_cases h2 : 57 < x
    · have := (gt32 (k := 57) (by omega)).mp h2
      rw [if_pos h2, e_bs, decide_eq_false (by omega)]; rfl
    · have h2' : ¬ (57 : Int) < x.toInt := fun q => h2 ((gt32 (k := 57) (by omega)).mpr q)
      rw [if_neg h2, e_bs, decide_eq_true (by omega)]; rfl
/-- what begins a factor -/
def isFa (x : Int32) : Bool := decide ((97 ≤ x.toInt ∧ x.toInt ≤ 102) ∨ x = 82 ∨ x = 40 ∨ x = 91)
theorem c_isFactor {x : Int32} : f_X5_beginsFactor σ x = some (isFa x) := by
  unfold f_X5_beginsFactor isFa
  by_cases hr : 97 ≤ x.toInt ∧ x.toInt ≤ 102
  · rw [if_neg (fun q => by have := (lt32 (k := 97) (by omega)).mp q; omega), if_pos (show x ≤ 102 from (le32 (k := 102) (by omega)).mpr (by omega)), e_bs, decide_eq_true (Or.inl hr)]
    rfl
  · have e1 : (if x < 97 then (some (Sum.inl ())) else (if x ≤ 102 then (some (Sum.inr (Sum.inl ()))) else (some (Sum.inl ()))) : Option (Unit ⊕ (Unit ⊕ Bool))) = some (Sum.inl ()) := by
      by_cases h1 : x < 97
      · rw [if_pos h1]
      · have h1' : ¬ x.toInt < 97 := fun q => h1 ((lt32 (k := 97) (by omega)).mpr q)
        rw [if_neg h1, if_neg (show ¬ x ≤ 102 from fun q => hr ⟨by omega, (le32 (k := 102) (by omega)).mp q⟩)]
    rw [e1, e_bs]
    show (j_X5_beginsFactor_12 x).bind _ = _
    unfold j_X5_beginsFactor_12
    by_cases h1 : x = 82
    · rw [if_pos h1, e_bs, decide_eq_true (Or.inr (Or.inl h1))]; rfl
    · rw [if_neg h1]
      by_cases h2 : x = 40
      · rw [if_pos h2, e_bs, decide_eq_true (Or.inr (Or.inr (Or.inl h2)))]; rfl
      · rw [if_neg h2]
        by_cases h3 : x = 91
        · rw [if_pos h3, e_bs, decide_eq_true (Or.inr (Or.inr (Or.inr h3)))]; rfl
        · rw [if_neg h3, e_bs, decide_eq_false (fun q => by rcases q with q | q | q | q; exact hr q; exact h1 q; exact h2 q; exact h3 q)]; rfl
theorem r_isFactor {x : Int32} : f_X11_isFactor σ x = some (isFa x) := by
  unfold f_X11_isFactor isFa
  by_cases hr : 97 ≤ x.toInt ∧ x.toInt ≤ 102
  · rw [if_neg (fun q => by have := (lt32 (k := 97) (by omega)).mp q; omega), if_pos (show x ≤ 102 from (le32 (k := 102) (by omega)).mpr (by omega)), e_bs, decide_eq_true (Or.inl hr)]
    rfl
  · have e1 : (if x < 97 then (some (Sum.inl ())) else (if x ≤ 102 then (some (Sum.inr (Sum.inl ()))) else (some (Sum.inl ()))) : Option (Unit ⊕ (Unit ⊕ Bool))) = some (Sum.inl ()) := by
      by_cases h1 : x < 97
      · rw [if_pos h1]
      · have h1' : ¬ x.toInt < 97 := fun q => h1 ((lt32 (k := 97) (by omega)).mpr q)
        rw [if_neg h1, if_neg (show ¬ x ≤ 102 from fun q => hr ⟨by omega, (le32 (k := 102) (by omega)).mp q⟩)]
    rw [e1, e_bs]
    show (j_X11_isFactor_12 x).bind _ = _
    unfold j_X11_isFactor_12
    by_cases h1 : x = 82
    · rw [if_pos h1, e_bs, decide_eq_true (Or.inr (Or.inl h1))]; rfl
    · rw [if_neg h1]
      by_cases h2 : x = 40
      · rw [if_pos h2, e_bs, decide_eq_true (Or.inr (Or.inr (Or.inl h2)))]; rfl
      · rw [if_neg h2]
        by_cases h3 : x = 91
        · rw [if_pos h3, e_bs, decide_eq_true (Or.inr (Or.inr (Or.inr h3)))]; rfl
        · rw [if_neg h3, e_bs, decide_eq_false (fun q => by rcases q with q | q | q | q; exact hr q; exact h1 q; exact h2 q; exact h3 q)]; rfl
theorem isFa_lt {p : Nat} (h : isFa (sn w p) = true) : p < w.length := sn_lt rfl (fun q => by rw [q] at h; exact absurd h (by decide))
theorem isDg_lt {p : Nat} (h : isDg (sn w p) = true) : p < w.length := sn_lt rfl (fun q => by rw [q] at h; exact absurd h (by decide))
end SGN
