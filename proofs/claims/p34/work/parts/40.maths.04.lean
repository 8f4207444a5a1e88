section
/-! the shape of a polynomial -/
section SH
variable {σ : Mem} {G : GD}
def mx32 (a b : Int32) : Int32 := if a < b then b else a
theorem e_max {a b : Int32} : f_J9_max_7cf53 σ a b = some (mx32 a b) := by
  unfold f_J9_max_7cf53 mx32
  split <;> rfl
def sD (G : GD) (e : List Nat) : Int32 := i32 (fo (· + ·) 0 (dg G e) 12)
def sW (G : GD) (e : List Nat) : Int32 := i32 (fo (· + ·) 0 (fun v => dg G e v * gw G (v % 6)) 12)
def HB (G : GD) (e : List Nat) : Prop := ∃ i, i < gn G ∧ e.getD i 0 ≠ 0 ∧ e.getD (gn G + i) 0 ≠ 0
noncomputable def hb (G : GD) (e : List Nat) : Bool := @decide (HB G e) (Classical.propDecidable _)
theorem hb_iff {e : List Nat} : hb G e = true ↔ HB G e := by
  unfold hb
  exact @decide_eq_true_iff (HB G e) (Classical.propDecidable _)
/-- what is told of a list of terms -/
def fld (op : Int32 → List Nat → Int32) (T : List (List Nat)) : Int32 := T.foldl op 0
theorem fld_snoc {op : Int32 → List Nat → Int32} {T : List (List Nat)} {e : List Nat} : fld op (T ++ [e]) = op (fld op T) e := by
  unfold fld
  rw [List.foldl_append]
  rfl
/-- a loop over a list's places -/
theorem loop_list {X : Type} {body : Int32 × Int32 → Option ((Int32 × Int32) ⊕ X)} {T : List (List Nat)} {op : Int32 → List Nat → Int32} {x : X} (hs : ∀ t e a, T[t]? = some e → t < T.length → body (a, i32 t) = some (Sum.inl (op a e, i32 (t + 1)))) (he : body (fld op T, i32 T.length) = some (Sum.inr x)) : loopO body (0, 0) = some x := by
  refine loop_at (fun t => (fld op (T.take t), i32 t)) 0 T.length (by rw [List.take_zero]; rfl) (Nat.zero_le _) (fun t _ ht => ?_) (by rw [List.take_length]; exact he)
  rw [List.take_succ_eq_append_getElem ht, fld_snoc]
  exact hs t _ _ (List.getElem?_eq_getElem ht) ht
section CS
variable {k : Nat} {T : List (List Nat)}
theorem c_keyd (hG : GOK G) (hk : k < 6) (hT : CT G σ k T) (hl : T.length ≤ 455) {t : Nat} {e : List Nat} (he : T[t]? = some e) (h3 : ∀ d, d ∈ e → d ≤ 3) {α : Type} {v : Nat} (hv : v < 12) {f : Int32 → Option α} : gI σ (rf (48 + 4 * k) 1) (i32 t) (fun (v8 : Int32) => (f_X10_degree σ v8 (i32 v)).bind f) = f (i32 (dg G e v)) := by
  obtain ⟨r1, r2, r3, l1, l2, l3⟩ := rfk hk
  have ht : t < T.length := (List.getElem?_eq_some_iff.mp he).1
  rw [r1, e_gI l1 (by omega) (by omega), (hT.2 t e he).1, c_degree (fun u _ => dg_le (G := G) h3 u) hv, e_bs]
theorem c_shape0 (hG : GOK G) (hk : k < 6) (hT : CT G σ k T) (hl : T.length ≤ 455) (h3 : ∀ e, e ∈ T → ∀ d, d ∈ e → d ≤ 3) : f_X9_greatestDegree σ (48 + 4 * k) = some (fld (fun a e => mx32 a (sD G e)) T) := by
  unfold f_X9_greatestDegree
  refine loop_list (T := T) (op := fun a e => mx32 a (sD G e)) (fun t e a he ht => ?_) ?_
  · show l_X9_greatestDegree_4 σ (48 + 4 * k) a (i32 t) = _
    unfold l_X9_greatestDegree_4
    have hin : loopO (fun (z7 : (Int32 × Int32)) => l_X9_greatestDegree_17 σ (48 + 4 * k) (i32 t) z7.1 z7.2) (0, 0) = some (sD G e) := by
      refine loop_at (fun v => (i32 (fo (· + ·) 0 (dg G e) v), i32 v)) 0 12 rfl (Nat.zero_le _) (fun v _ hv => ?_) ?_
      · show l_X9_greatestDegree_17 σ (48 + 4 * k) (i32 t) _ (i32 v) = _
        unfold l_X9_greatestDegree_17
        rw [show (12 : Int32) = i32 12 from rfl, if_neg (i_nle hv (by omega)), c_keyd hG hk hT hl he (h3 e (List.mem_of_getElem? he)) hv, e_bd, i32_add, i32_1, i32_add]
        rfl
      · show l_X9_greatestDegree_17 σ (48 + 4 * k) (i32 t) _ (i32 12) = _
        unfold l_X9_greatestDegree_17
        rw [if_pos (by decide)]
        rfl
    rw [e_gF, hT.1, if_neg (i_nle ht (by omega)), hin, e_bs]
    unfold j_X9_greatestDegree_44
    rw [e_max, e_bs, i32_1, i32_add]
  · show l_X9_greatestDegree_4 σ (48 + 4 * k) _ (i32 T.length) = _
    unfold l_X9_greatestDegree_4
    rw [e_gF, hT.1, if_pos (i_le (Nat.le_refl _) (by omega))]
theorem c_shape1 (hG : GOK G) (hm : CG σ 2 G) (hk : k < 6) (hT : CT G σ k T) (hl : T.length ≤ 455) (h3 : ∀ e, e ∈ T → ∀ d, d ∈ e → d ≤ 3) : f_X9_greatestWeight σ (48 + 4 * k) 2 = some (fld (fun a e => mx32 a (sW G e)) T) := by
  unfold f_X9_greatestWeight
  refine loop_list (T := T) (op := fun a e => mx32 a (sW G e)) (fun t e a he ht => ?_) ?_
  · show l_X9_greatestWeight_4 σ (48 + 4 * k) 2 a (i32 t) = _
    unfold l_X9_greatestWeight_4
    have hin : loopO (fun (z7 : (Int32 × Int32)) => l_X9_greatestWeight_18 σ (48 + 4 * k) 2 (i32 t) z7.1 z7.2) (0, 0) = some (sW G e) := by
      refine loop_at (fun v => (i32 (fo (· + ·) 0 (fun v => dg G e v * gw G (v % 6)) v), i32 v)) 0 12 rfl (Nat.zero_le _) (fun v _ hv => ?_) ?_
      · show l_X9_greatestWeight_18 σ (48 + 4 * k) 2 (i32 t) _ (i32 v) = _
        unfold l_X9_greatestWeight_18
        have e3 : σ.1 3 (v % 6) = i32 (gw G (v % 6)) := hm.2.1 (v % 6) (by omega)
        rw [show (12 : Int32) = i32 12 from rfl, if_neg (i_nle hv (by omega)), c_keyd hG hk hT hl he (h3 e (List.mem_of_getElem? he)) hv, e_nzI (by decide), i_mod6 hv, show rf 2 1 = 3 by decide +kernel, e_gI ln_3 (by omega) (by omega), e3, e_bd, i32_mul, i32_add, i32_1, i32_add]
        rfl
      · show l_X9_greatestWeight_18 σ (48 + 4 * k) 2 (i32 t) _ (i32 12) = _
        unfold l_X9_greatestWeight_18
        rw [if_pos (by decide)]
        rfl
    rw [e_gF, hT.1, if_neg (i_nle ht (by omega)), hin, e_bs]
    unfold j_X9_greatestWeight_58
    rw [e_max, e_bs, i32_1, i32_add]
  · show l_X9_greatestWeight_4 σ (48 + 4 * k) 2 _ (i32 T.length) = _
    unfold l_X9_greatestWeight_4
    rw [e_gF, hT.1, if_pos (i_le (Nat.le_refl _) (by omega))]
theorem c_hasBoth (hG : GOK G) {e : List Nat} (h3 : ∀ d, d ∈ e → d ≤ 3) : f_X9_hasBoth σ (i32 (ky (dg G e) 12)) = some (hb G e) := by
  have hn := hG.2.1
  unfold f_X9_hasBoth
  have hdg := fun u (_ : u < 12) => dg_le (G := G) h3 u
  have hl := loop_inv (body := fun (z1 : Int32) => l_X9_hasBoth_2 σ (i32 (ky (dg G e) 12)) z1) (fun n z => ∃ i, i ≤ 6 ∧ n = 6 - i ∧ z = i32 i ∧ ∀ p, p < i → dg G e p = 0 ∨ dg G e (6 + p) = 0) (fun b => b = true ↔ HB G e) ?_ 6 0 ⟨0, by omega, rfl, rfl, fun p hp => absurd hp (Nat.not_lt_zero _)⟩
  · obtain ⟨b, e1, h1⟩ := hl
    rw [show (fun (z1 : Int32) => l_X9_hasBoth_2 σ (i32 (ky (dg G e) 12)) z1) = fun z1 => l_X9_hasBoth_2 σ (i32 (ky (dg G e) 12)) z1 from rfl, e1, bool_iff h1 hb_iff]
  · have hd : ∀ i, i < gn G → dg G e i = e.getD i 0 ∧ dg G e (6 + i) = e.getD (gn G + i) 0 := fun i hi => by
      unfold dg
      rw [if_pos (by omega), if_pos hi, if_neg (by omega), if_pos (by omega), show 6 + i - 6 = i by omega]
      exact ⟨rfl, rfl⟩
    rintro n z ⟨i, hi, rfl, rfl, hv⟩
    by_cases hi6 : i = 6
    · right
      subst hi6
      refine ⟨false, ?_, ⟨fun z => absurd z (by decide), fun ⟨p, hp, h1, h2⟩ => ?_⟩⟩
      · show l_X9_hasBoth_2 σ _ (i32 6) = _
        unfold l_X9_hasBoth_2
        rw [if_pos (by decide)]
      · have := hd p hp
        rcases hv p (by omega) with h4 | h4
        · exact absurd (this.1.symm.trans h4) h1
        · exact absurd (this.2.symm.trans h4) h2
    · have hi' : i < 6 := by omega
      have a1 := hdg i (by omega)
      have a2 := hdg (6 + i) (by omega)
      have hstart : ∀ {y}, ((if i32 (dg G e i) ≤ 0 then (some (Sum.inl ())) else ((f_X10_degree σ (i32 (ky (dg G e) 12)) (6 + i32 i)).bind (fun (v3 : Int32) => if v3 ≤ 0 then (some (Sum.inl ())) else (some (Sum.inr (Sum.inr true))))) : Option (Unit ⊕ (Int32 ⊕ Bool))).bind (Sum.elim (fun (z2 : Unit) => j_X9_hasBoth_29 (i32 i)) some)) = y → l_X9_hasBoth_2 σ (i32 (ky (dg G e) 12)) (i32 i) = y := by
        intro y hy
        unfold l_X9_hasBoth_2
        rw [if_neg (show ¬ (6 : Int32) ≤ i32 i from i_nle (b := i) (a := 6) hi' (by omega)), c_degree hdg (by omega), e_bs]
        exact hy
      have again : (∀ p, p < i + 1 → dg G e p = 0 ∨ dg G e (6 + p) = 0) → l_X9_hasBoth_2 σ (i32 (ky (dg G e) 12)) (i32 i) = some (Sum.inl (i32 (i + 1))) → ∃ s' n', n' < 6 - i ∧ (fun (z1 : Int32) => l_X9_hasBoth_2 σ (i32 (ky (dg G e) 12)) z1) (i32 i) = some (Sum.inl s') ∧ ∃ i, i ≤ 6 ∧ n' = 6 - i ∧ s' = i32 i ∧ ∀ p, p < i → dg G e p = 0 ∨ dg G e (6 + p) = 0 := fun h1 h2 => ⟨i32 (i + 1), 6 - (i + 1), by omega, h2, i + 1, by omega, rfl, rfl, h1⟩
      have j29 : j_X9_hasBoth_29 (i32 i) = some (Sum.inl (i32 (i + 1))) := by
        unfold j_X9_hasBoth_29
        rw [i32_1, i32_add]
      by_cases h1 : dg G e i = 0
      · left
        refine again (fun p hp => ?_) ?_
        · by_cases h2 : p = i
          · rw [h2]; exact Or.inl h1
          · exact hv p (by omega)
        · refine hstart ?_
          rw [h1, if_pos (by decide), e_bs]
          exact j29
      · by_cases h2 : dg G e (6 + i) = 0
        · left
          refine again (fun p hp => ?_) ?_
          · by_cases h4 : p = i
            · rw [h4]; exact Or.inr h2
            · exact hv p (by omega)
          · refine hstart ?_
            rw [if_neg (show ¬ i32 (dg G e i) ≤ 0 from i_nle (b := 0) (by omega) (by omega)), i32_6, i32_add, c_degree hdg (by omega), e_bs, h2, if_pos (by decide), e_bs]
            exact j29
        · right
          refine ⟨true, ?_, ⟨fun _ => ?_, fun _ => rfl⟩⟩
          · show l_X9_hasBoth_2 σ _ (i32 i) = _
            refine hstart ?_
            rw [if_neg (show ¬ i32 (dg G e i) ≤ 0 from i_nle (b := 0) (by omega) (by omega)), i32_6, i32_add, c_degree hdg (by omega), e_bs, if_neg (show ¬ i32 (dg G e (6 + i)) ≤ 0 from i_nle (b := 0) (by omega) (by omega)), e_bs]
            rfl
          · have hin : i < gn G := by
              refine Nat.lt_of_not_le (fun q => h1 ?_)
              exact dg_out (by omega) (by rw [Nat.mod_eq_of_lt hi']; exact q)
            have := hd i hin
            exact ⟨i, hin, fun z => h1 (this.1.trans z), fun z => h2 (this.2.trans z)⟩
theorem c_shape2 (hG : GOK G) (hk : k < 6) (hT : CT G σ k T) (hl : T.length ≤ 455) (h3 : ∀ e, e ∈ T → ∀ d, d ∈ e → d ≤ 3) : f_X9_termsInBothRows σ (48 + 4 * k) = some (fld (fun a e => a + b2i (hb G e)) T) := by
  obtain ⟨r1, r2, r3, l1, l2, l3⟩ := rfk hk
  unfold f_X9_termsInBothRows
  refine loop_list (T := T) (op := fun a e => a + b2i (hb G e)) (fun t e a he ht => ?_) ?_
  · show l_X9_termsInBothRows_4 σ (48 + 4 * k) a (i32 t) = _
    unfold l_X9_termsInBothRows_4
    rw [e_gF, hT.1, if_neg (i_nle ht (by omega)), r1, e_gI l1 (by omega) (by omega), (hT.2 t e he).1, c_hasBoth hG (h3 e (List.mem_of_getElem? he)), e_bs]
    unfold j_X9_termsInBothRows_30
    cases hb G e
    · rw [if_neg (by decide), e_bs, e_bd, i32_1, i32_add]
    · rw [if_pos rfl, e_bs, e_bd, i32_1, i32_add]
  · show l_X9_termsInBothRows_4 σ (48 + 4 * k) _ (i32 T.length) = _
    unfold l_X9_termsInBothRows_4
    rw [e_gF, hT.1, if_pos (i_le (Nat.le_refl _) (by omega))]
theorem c_shape3 (hk : k < 6) (hT : CT G σ k T) (hl : T.length ≤ 455) : ∃ s, f_X9_sumOfNumbers σ (48 + 4 * k) = some s ∧ s.toInt32 = fld (fun a e => a + (oi (cf G k e)).toInt32) T := by
  obtain ⟨r1, r2, r3, l1, l2, l3⟩ := rfk hk
  unfold f_X9_sumOfNumbers
  refine loop_inv (body := fun (z2 : (Int64 × Int32)) => l_X9_sumOfNumbers_4 σ (48 + 4 * k) z2.1 z2.2) (fun n z => ∃ t s, t ≤ T.length ∧ n = T.length - t ∧ z = (s, i32 t) ∧ s.toInt32 = fld (fun a e => a + (oi (cf G k e)).toInt32) (T.take t)) _ ?_ T.length (0, 0) ⟨0, 0, Nat.zero_le _, rfl, rfl, by rw [List.take_zero]; rfl⟩
  rintro n z ⟨t, s, ht, rfl, rfl, hs⟩
  by_cases htl : t = T.length
  · right
    refine ⟨s, ?_, by rw [hs, htl, List.take_length]⟩
    show l_X9_sumOfNumbers_4 σ (48 + 4 * k) s (i32 t) = _
    unfold l_X9_sumOfNumbers_4
    rw [e_gF, hT.1, if_pos (i_le (by omega) (by omega))]
  · left
    have ht' : t < T.length := by omega
    have hg := List.getElem?_eq_getElem ht'
    refine ⟨(s + oi (cf G k T[t]), i32 (t + 1)), T.length - (t + 1), by omega, ?_, t + 1, _, by omega, rfl, rfl, ?_⟩
    · show l_X9_sumOfNumbers_4 σ (48 + 4 * k) s (i32 t) = _
      unfold l_X9_sumOfNumbers_4
      rw [e_gF, hT.1, if_neg (i_nle ht' (by omega)), r2, e_gL l2 (by omega) (by omega), (hT.2 t _ hg).2.1, e_bd, i32_1, i32_add]
    · rw [Int64.toInt32_add, hs, List.take_succ_eq_append_getElem ht', fld_snoc]
end CS
section RS
variable {k : Nat} {T : List (List Nat)}
theorem r_tAt {t : Nat} : f_X11_termAt σ (i32 (k + 1)) (i32 t) = some (i32 (9100 * k + 13 * t)) := by
  unfold f_X11_termAt
  have hk1 : i32 (k + 1) - 1 = i32 k := by
    have := i32_sub (a := k + 1) (b := 1) (by omega)
    exact this
  rw [hk1, show (9100 : Int32) = i32 9100 from rfl, show (13 : Int32) = i32 13 from rfl, i32_mul, i32_mul, i32_add]
theorem sD_eq (hG : GOK G) {e : List Nat} : sD G e = i32 (fo (· + ·) 0 (fun p => e.getD p 0) (2 * gn G)) := by
  unfold sD
  rw [fo12 hG (fun a b c => Nat.add_assoc a b c) Nat.add_zero (fun v hv h => dg_out hv h)]
  have e1 : fo (· + ·) 0 (fun p => dg G e (vp G p)) (2 * gn G) = fo (· + ·) 0 (fun p => e.getD p 0) (2 * gn G) := fo_congr _ (fun p hp => dg_vp hG hp)
  exact congrArg i32 e1
theorem vp_mod (hG : GOK G) {p : Nat} (hp : p < 2 * gn G) : vp G p % 6 = p % gn G := by
  have hn := hG.2.1
  unfold vp
  by_cases h : p < gn G
  · rw [if_pos h, Nat.mod_eq_of_lt h, Nat.mod_eq_of_lt (by omega)]
  · have e : p % gn G = p - gn G := by rw [Nat.mod_eq_sub_mod (by omega), Nat.mod_eq_of_lt (by omega)]
    rw [if_neg h, e]
    omega
theorem sW_eq (hG : GOK G) {e : List Nat} : sW G e = i32 (fo (· + ·) 0 (fun p => e.getD p 0 * gw G (p % gn G)) (2 * gn G)) := by
  unfold sW
  rw [fo12 hG (fun a b c => Nat.add_assoc a b c) Nat.add_zero (fun v hv h => by rw [dg_out hv h, Nat.zero_mul])]
  have e1 : fo (· + ·) 0 (fun p => dg G e (vp G p) * gw G (vp G p % 6)) (2 * gn G) = fo (· + ·) 0 (fun p => e.getD p 0 * gw G (p % gn G)) (2 * gn G) := fo_congr _ (fun p hp => by rw [dg_vp hG hp, vp_mod hG hp])
  exact congrArg i32 e1
theorem r_get (hG : GOK G) (hT : RT G σ k T) {t : Nat} {e : List Nat} (he : T[t]? = some e) (h3 : ∀ d, d ∈ e → d ≤ 3) {p : Nat} (hp : p < 2 * gn G) : σ.2 312 (9100 * k + 13 * t + 1 + p) = oi (e.getD p 0 : Int) ∧ e.getD p 0 ≤ 3 := by
  have q := hT.2 t e he
  have hpe : p < e.length := by rw [q.1]; exact hp
  have h1 := q.2.2 p _ (List.getElem?_eq_getElem hpe)
  rw [List.getD_eq_getElem?_getD, List.getElem?_eq_getElem hpe]
  exact ⟨h1, h3 _ (List.getElem_mem hpe)⟩
theorem r_degreeOf (h : MG σ G) (hG : GOK G) (hk : k < 6) (hT : RT G σ k T) (hl : T.length ≤ 455) {t : Nat} {e : List Nat} (he : T[t]? = some e) (h3 : ∀ d, d ∈ e → d ≤ 3) : f_X11_degreeOf σ (i32 (k + 1)) (i32 t) = some (sD G e) := by
  have hn := hG.2.1
  have ht : t < T.length := (List.getElem?_eq_some_iff.mp he).1
  rw [sD_eq hG]
  unfold f_X11_degreeOf
  refine loop_at (fun p => (i32 (fo (· + ·) 0 (fun p => e.getD p 0) p), i32 (p + 1))) 0 (2 * gn G) rfl (Nat.zero_le _) (fun p _ hp => ?_) ?_
  · show l_X11_degreeOf_5 σ (i32 (k + 1)) (i32 t) _ (i32 (p + 1)) = _
    unfold l_X11_degreeOf_5
    have q := r_get hG hT he h3 hp
    rw [e_n h, e_bs, i32_2, i32_mul, if_neg (i_nlt (by omega) (by omega)), r_tAt, e_bs, i32_add, e_gL ln_312 (by omega) (by omega), show 9100 * k + 13 * t + (p + 1) = 9100 * k + 13 * t + 1 + p by omega, q.1, oi32 (by omega), e_bd, i32_add, i32_1, i32_add]
    rfl
  · show l_X11_degreeOf_5 σ (i32 (k + 1)) (i32 t) _ (i32 (2 * gn G + 1)) = _
    unfold l_X11_degreeOf_5
    rw [e_n h, e_bs, i32_2, i32_mul, if_pos (i_lt (by omega) (by omega))]
theorem r_weightT (h : MG σ G) (hG : GOK G) (hk : k < 6) (hT : RT G σ k T) (hl : T.length ≤ 455) {t : Nat} {e : List Nat} (he : T[t]? = some e) (h3 : ∀ d, d ∈ e → d ≤ 3) : f_X11_weightOfTerm σ (i32 (k + 1)) (i32 t) = some (sW G e) := by
  have hn := hG.2.1
  have ht : t < T.length := (List.getElem?_eq_some_iff.mp he).1
  rw [sW_eq hG]
  unfold f_X11_weightOfTerm
  refine loop_at (fun p => (i32 (fo (· + ·) 0 (fun p => e.getD p 0 * gw G (p % gn G)) p), i32 (p + 1))) 0 (2 * gn G) rfl (Nat.zero_le _) (fun p _ hp => ?_) ?_
  · show l_X11_weightOfTerm_5 σ (i32 (k + 1)) (i32 t) _ (i32 (p + 1)) = _
    unfold l_X11_weightOfTerm_5
    have q := r_get hG hT he h3 hp
    have hp1 : i32 (p + 1) - 1 = i32 p := i32_sub (a := p + 1) (b := 1) (by omega)
    rw [e_n h, e_bs, i32_2, i32_mul, if_neg (i_nlt (by omega) (by omega)), hp1, r_weightOf h hG hp, e_bs, r_tAt, e_bs, i32_add, e_gL ln_312 (by omega) (by omega), show 9100 * k + 13 * t + (p + 1) = 9100 * k + 13 * t + 1 + p by omega, q.1, oi32 (by omega), e_bd, i32_mul, i32_add, i32_1, i32_add, Nat.mul_comm]
    rfl
  · show l_X11_weightOfTerm_5 σ (i32 (k + 1)) (i32 t) _ (i32 (2 * gn G + 1)) = _
    unfold l_X11_weightOfTerm_5
    rw [e_n h, e_bs, i32_2, i32_mul, if_pos (i_lt (by omega) (by omega))]
theorem oi_le0 {d : Nat} (h : d ≤ 3) : oi (d : Int) ≤ 0 ↔ d = 0 := by
  rw [Int64.le_iff_toInt_le, oi_toInt (by omega) (by omega)]
  have : (0 : Int64).toInt = 0 := by decide
  omega
theorem r_inBoth (h : MG σ G) (hG : GOK G) (hk : k < 6) (hT : RT G σ k T) (hl : T.length ≤ 455) {t : Nat} {e : List Nat} (he : T[t]? = some e) (h3 : ∀ d, d ∈ e → d ≤ 3) : f_X11_isInBoth σ (i32 (k + 1)) (i32 t) = some (hb G e) := by
  have hn := hG.2.1
  have ht : t < T.length := (List.getElem?_eq_some_iff.mp he).1
  unfold f_X11_isInBoth
  have hl' := loop_inv (body := fun (z1 : Int32) => l_X11_isInBoth_2 σ (i32 (k + 1)) (i32 t) z1) (fun n z => ∃ i, i ≤ gn G ∧ n = gn G - i ∧ z = i32 (i + 1) ∧ ∀ p, p < i → e.getD p 0 = 0 ∨ e.getD (gn G + p) 0 = 0) (fun b => b = true ↔ HB G e) ?_ (gn G) 1 ⟨0, by omega, rfl, rfl, fun p hp => absurd hp (Nat.not_lt_zero _)⟩
  · obtain ⟨b, e1, h1⟩ := hl'
    rw [show (fun (z1 : Int32) => l_X11_isInBoth_2 σ (i32 (k + 1)) (i32 t) z1) = fun z1 => l_X11_isInBoth_2 σ (i32 (k + 1)) (i32 t) z1 from rfl, e1, bool_iff h1 hb_iff]
  · rintro n z ⟨i, hi, rfl, rfl, hv⟩
    by_cases hin : i = gn G
    · right
      subst hin
      refine ⟨false, ?_, ⟨fun z => absurd z (by decide), fun ⟨p, hp, h1, h2⟩ => ?_⟩⟩
      · show l_X11_isInBoth_2 σ _ _ (i32 (gn G + 1)) = _
        unfold l_X11_isInBoth_2
        rw [e_n h, e_bs, if_pos (i_lt (by omega) (by omega))]
      · rcases hv p hp with h4 | h4
        · exact absurd h4 h1
        · exact absurd h4 h2
    · have hi' : i < gn G := by omega
      have q1 := r_get hG hT he h3 (show i < 2 * gn G by omega)
      have q2 := r_get hG hT he h3 (show gn G + i < 2 * gn G by omega)
      have j53 : j_X11_isInBoth_53 (i32 (i + 1)) = some (Sum.inl (i32 (i + 1 + 1))) := by
        unfold j_X11_isInBoth_53
        rw [i32_1, i32_add]
      have hstart : ∀ {y}, ((if oi (e.getD i 0 : Int) ≤ 0 then (some (Sum.inl ())) else (if oi (e.getD (gn G + i) 0 : Int) ≤ 0 then (some (Sum.inl ())) else (some (Sum.inr (Sum.inr true)))) : Option (Unit ⊕ (Int32 ⊕ Bool))).bind (Sum.elim (fun (z4 : Unit) => j_X11_isInBoth_53 (i32 (i + 1))) some)) = y → l_X11_isInBoth_2 σ (i32 (k + 1)) (i32 t) (i32 (i + 1)) = y := by
        intro y hy
        unfold l_X11_isInBoth_2
        rw [e_n h, e_bs, if_neg (i_nlt (by omega) (by omega)), r_tAt, e_bs, i32_add, e_gL ln_312 (by omega) (by omega), show 9100 * k + 13 * t + (i + 1) = 9100 * k + 13 * t + 1 + i by omega, q1.1, e_bs, e_bs, i32_add, i32_add, e_gL ln_312 (by omega) (by omega), show 9100 * k + 13 * t + gn G + (i + 1) = 9100 * k + 13 * t + 1 + (gn G + i) by omega, q2.1]
        exact hy
      have again : (∀ p, p < i + 1 → e.getD p 0 = 0 ∨ e.getD (gn G + p) 0 = 0) → l_X11_isInBoth_2 σ (i32 (k + 1)) (i32 t) (i32 (i + 1)) = some (Sum.inl (i32 (i + 1 + 1))) → ∃ s' n', n' < gn G - i ∧ (fun (z1 : Int32) => l_X11_isInBoth_2 σ (i32 (k + 1)) (i32 t) z1) (i32 (i + 1)) = some (Sum.inl s') ∧ ∃ i, i ≤ gn G ∧ n' = gn G - i ∧ s' = i32 (i + 1) ∧ ∀ p, p < i → e.getD p 0 = 0 ∨ e.getD (gn G + p) 0 = 0 := fun h1 h2 => ⟨i32 (i + 1 + 1), gn G - (i + 1), by omega, h2, i + 1, by omega, rfl, rfl, h1⟩
      by_cases h1 : e.getD i 0 = 0
      · left
        refine again (fun p hp => ?_) ?_
        · by_cases h2 : p = i
          · rw [h2]; exact Or.inl h1
          · exact hv p (by omega)
        · refine hstart ?_
          rw [if_pos ((oi_le0 q1.2).mpr h1), e_bs]
          exact j53
      · by_cases h2 : e.getD (gn G + i) 0 = 0
        · left
          refine again (fun p hp => ?_) ?_
          · by_cases h4 : p = i
            · rw [h4]; exact Or.inr h2
            · exact hv p (by omega)
          · refine hstart ?_
            rw [if_neg (fun z => h1 ((oi_le0 q1.2).mp z)), if_pos ((oi_le0 q2.2).mpr h2), e_bs]
            exact j53
        · right
          refine ⟨true, ?_, ⟨fun _ => ⟨i, hi', h1, h2⟩, fun _ => rfl⟩⟩
          show l_X11_isInBoth_2 σ _ _ (i32 (i + 1)) = _
          refine hstart ?_
          rw [if_neg (fun z => h1 ((oi_le0 q1.2).mp z)), if_neg (fun z => h2 ((oi_le0 q2.2).mp z)), e_bs]
          rfl
end RS
/-! the shape, told by both -/
section SO
theorem ok_26 : Ok_26 II := by
  intro c σ x w hc ⟨S, ok, h, hr⟩
  have f0 : SR σ (wI σ 306 0 0) := SR.fld (by omega)
  have hG : GOK (aG S) := ok.1.1
  have hn : gn (aG S) ≤ 6 := hG.2.1
  obtain ⟨b, hb', hB⟩ := c_cons h
  obtain ⟨b2, τ, e, hr2, lo, hB2, hl⟩ := r_isPoly (hr.sr f0) ok (x := x)
  have : b2 = b := bool_iff hB2 hB
  subst this
  have hn0 : σ.1 2 0 = i32 (gn (aG S)) := h.1.1.1
  have fin : II (c + 1) τ := fin_q ok h hr2 (f0.lo.trans lo)
  unfold f_X10_shape f_X11_shape
  rw [c_hasPoly hn0 hn hb', e_bs, e_pF, e, e_bq]
  cases hx : isGen (gn (aG S)) x with
  | false => exact ⟨_, _, rfl, rfl, fin⟩
  | true =>
    cases b2 with
    | false => exact ⟨_, _, rfl, rfl, fin⟩
    | true =>
      have hcons := hB.mp rfl
      obtain ⟨k, hk, rfl, hk1⟩ := isGen_idx hx
      have hct := c_ct h hcons k (by omega)
      rw [if_pos hk] at hct
      have hrt := r_rt (hl hx).2 hcons hk hn
      have hlen := Tk_len hG hk
      have h3 : ∀ e, e ∈ Tk (aG S) k → ∀ d, d ∈ e → d ≤ 3 := fun e he => pts_le3 hG (hG.2.2.1 k hk).2 (List.mem_filter.mp he).1
      have hM := hr2.1.mg
      have ew := r_in (σ := τ) (x := w) (l := 0) (u := 3) ⟨by omega, by omega⟩ ⟨by omega, by omega⟩
      -- the reference's loop, by what is asked
      have rl : ∀ op : Int32 → List Nat → Int32, (∀ t e a, (Tk (aG S) k)[t]? = some e → t < (Tk (aG S) k).length → l_X11_shape_35 (i32 (k + 1)) w τ a (i32 t) = some (Sum.inl (op a e, i32 (t + 1)))) → loopO (fun (z6 : (Int32 × Int32)) => l_X11_shape_35 (i32 (k + 1)) w τ z6.1 z6.2) (0, 0) = some (fld op (Tk (aG S) k), τ) := fun op hop => by
        refine loop_list (T := Tk (aG S) k) (op := op) hop ?_
        show l_X11_shape_35 (i32 (k + 1)) w τ _ (i32 (Tk (aG S) k).length) = _
        unfold l_X11_shape_35
        rw [hk1, e_gI ln_311 (by omega) (by omega), hrt.1, if_pos (i_le (Nat.le_refl _) (by omega))]
      have start : ∀ {t : Nat} {a : Int32} {y}, t < (Tk (aG S) k).length → ((if w = 0 then ((f_X11_degreeOf τ (i32 (k + 1)) (i32 t)).bind (fun (v19 : Int32) => (f_J9_max_7cf53 τ a v19).bind (fun (v20 : Int32) => some v20))) else (some a) : Option Int32).bind (fun (z8 : Int32) => j_X11_shape_64 (i32 (k + 1)) w τ (i32 t) z8)) = y → l_X11_shape_35 (i32 (k + 1)) w τ a (i32 t) = y := by
        intro t a y ht hy
        unfold l_X11_shape_35
        rw [hk1, e_gI ln_311 (by omega) (by omega), hrt.1, if_neg (i_nle ht (by omega))]
        exact hy
      have last : ∀ {t : Nat} {a : Int32}, j_X11_shape_121 (i32 t) a = some (Sum.inl (a, i32 (t + 1))) := fun {t a} => by
        unfold j_X11_shape_121
        rw [i32_1, i32_add]
      rw [Bool.and_self, if_pos rfl, if_pos rfl, hk1, e_gR ln_44 (by omega) (by omega), rf_44 (by omega), show (0 : Int64) = oi 0 from rfl, show (3 : Int64) = oi 3 from rfl, ew, e_bs]
      by_cases w0 : w = 0
      · subst w0
        rw [if_pos rfl, c_shape0 hG (by omega) hct hlen h3, e_bs]
        refine ⟨_, τ, rfl, ?_, fin⟩
        rw [if_pos (by decide)]
        refine rl _ (fun t e a he ht => start ht ?_)
        rw [if_pos rfl, r_degreeOf hM hG (by omega) hrt hlen he (h3 e (List.mem_of_getElem? he)), e_bs, e_max, e_bs, e_bs]
        unfold j_X11_shape_64
        rw [if_neg (by decide), e_bs]
        unfold j_X11_shape_81
        rw [if_neg (by decide), e_bs]
        unfold j_X11_shape_100
        rw [if_neg (by decide), e_bs, last]
      · rw [if_neg w0]
        by_cases w1 : w = 1
        · subst w1
          rw [if_pos rfl, c_shape1 hG h.1.1 (by omega) hct hlen h3, e_bs]
          refine ⟨_, τ, rfl, ?_, fin⟩
          rw [if_pos (by decide)]
          refine rl _ (fun t e a he ht => start ht ?_)
          rw [if_neg (by decide), e_bs]
          unfold j_X11_shape_64
          rw [if_pos rfl, r_weightT hM hG (by omega) hrt hlen he (h3 e (List.mem_of_getElem? he)), e_bs, e_max, e_bs, e_bs]
          unfold j_X11_shape_81
          rw [if_neg (by decide), e_bs]
          unfold j_X11_shape_100
          rw [if_neg (by decide), e_bs, last]
        · rw [if_neg w1]
          by_cases w2 : w = 2
          · subst w2
            rw [if_pos rfl, c_shape2 hG (by omega) hct hlen h3, e_bs]
            refine ⟨_, τ, rfl, ?_, fin⟩
            rw [if_pos (by decide)]
            refine rl _ (fun t e a he ht => start ht ?_)
            rw [if_neg (by decide), e_bs]
            unfold j_X11_shape_64
            rw [if_neg (by decide), e_bs]
            unfold j_X11_shape_81
            rw [if_pos rfl, r_inBoth hM hG (by omega) hrt hlen he (h3 e (List.mem_of_getElem? he)), e_bs]
            cases hb (aG S) e
            · rw [if_neg (by decide), e_bs]
              unfold j_X11_shape_100
              rw [if_neg (by decide), e_bs, last, show a + b2i false = a from Int32.add_zero a]
            · rw [if_pos rfl, e_bd, e_bs]
              unfold j_X11_shape_100
              rw [if_neg (by decide), e_bs, last]
              rfl
          · rw [if_neg w2]
            by_cases w3 : w = 3
            · subst w3
              obtain ⟨s, e1, hs⟩ := c_shape3 (σ := σ) (G := aG S) (show k < 6 by omega) hct hlen
              rw [if_pos rfl, e1, e_bs]
              refine ⟨_, τ, rfl, ?_, fin⟩
              rw [if_pos (by decide), hs]
              refine rl _ (fun t e a he ht => start ht ?_)
              rw [if_neg (by decide), e_bs]
              unfold j_X11_shape_64
              rw [if_neg (by decide), e_bs]
              unfold j_X11_shape_81
              rw [if_neg (by decide), e_bs]
              unfold j_X11_shape_100
              rw [if_pos rfl, r_tAt, e_bs, e_gL ln_312 (by omega) (by omega), (hrt.2 t e he).2.1, e_bd, e_bs, last]
            · rw [if_neg w3]
              refine ⟨-10000, τ, rfl, ?_, fin⟩
              rw [decide_eq_false, if_neg (by decide)]
              rintro ⟨z1, z2⟩
              have hz := i32_of z1
              rcases (show w.toInt.toNat = 0 ∨ w.toInt.toNat = 1 ∨ w.toInt.toNat = 2 ∨ w.toInt.toNat = 3 by omega) with q | q | q | q
              · rw [q] at hz; exact w0 hz
              · rw [q] at hz; exact w1 hz
              · rw [q] at hz; exact w2 hz
              · rw [q] at hz; exact w3 hz
end SO
end SH
end
section
/-! acts kept by both -/
section AC
variable {σ : Mem}
def saB (s : Nat) : Bool := rf s 0 == s + 1 && (rf s 1 == s + 4 && (rf s 2 == s + 15 && (rf (s + 1) 1 == s + 2 && (rf (s + 1) 2 == s + 3 && (ln (s + 2) == 6 && (ln (s + 3) == 216 && (ln (s + 4) == 10 && (ln (s + 15) == 8 && (List.range 10).all (fun r => rf (s + 4) r == s + 5 + r && ln (s + 5 + r) == 6)))))))))
/-- the address of a state -/
def SA (s : Nat) : Prop := rf s 0 = s + 1 ∧ rf s 1 = s + 4 ∧ rf s 2 = s + 15 ∧ RR2 (s + 1) ∧ ln (s + 4) = 10 ∧ ln (s + 15) = 8 ∧ ∀ r, r < 10 → rf (s + 4) r = s + 5 + r ∧ ln (s + 5 + r) = 6
theorem saB_ok {s : Nat} (h : saB s = true) : SA s := by
  unfold saB at h
  simp only [Bool.and_eq_true, beq_iff_eq] at h
  obtain ⟨a1, a2, a3, a4, a5, a6, a7, a8, a9, a10⟩ := h
  refine ⟨a1, a2, a3, ⟨a4, a5, a6, a7⟩, a8, a9, fun r hr => ?_⟩
  have := List.all_eq_true.mp a10 r (List.mem_range.mpr hr)
  simp only [Bool.and_eq_true, beq_iff_eq] at this
  exact this
theorem SA_1 : SA 1 := saB_ok (by decide +kernel)
theorem SA_17 : SA 17 := saB_ok (by decide +kernel)
theorem SA_act {i : Nat} (h : i < 8) : rf 33 i = 178 + 16 * i ∧ SA (178 + 16 * i) := by
  have h1 : (List.range 8).all (fun i => rf 33 i == 178 + 16 * i && saB (178 + 16 * i)) = true := by decide +kernel
  have h2 := List.all_eq_true.mp h1 i (List.mem_range.mpr h)
  rw [Bool.and_eq_true, beq_iff_eq] at h2
  exact ⟨h2.1, saB_ok h2.2⟩
/-- rows within a range have changed alone -/
def FRg (lo hi : Nat) (σ τ : Mem) : Prop := ∀ x, x < lo ∨ hi < x → τ.1 x = σ.1 x ∧ τ.2 x = σ.2 x
theorem c_copyRow {a b : Nat} (ha : ln a = 6) (hb : ln b = 6) : ∃ τ, f_X0_copy σ a b = some τ ∧ OL (fun x => x = b) σ τ ∧ ∀ k, k < 6 → τ.2 b k = σ.2 a k := by
  unfold f_X0_copy
  rw [e_cL6 ha hb]
  refine ⟨_, rfl, ⟨rfl, fun x hx => ?_⟩, fun k hk => ?_⟩
  · funext y; rw [cpL_get, if_neg (fun z => hx z.1)]
  · rw [cpL_get, if_pos ⟨rfl, hk⟩]
theorem c_takeActed {s t : Nat} {X : GR} (hs : SA s) (ht : SA t) (hne : s + 16 ≤ t ∨ t + 16 ≤ s) (h : CB σ s X) : ∃ τ, f_X8_takeActed σ t s = some τ ∧ CB τ t X ∧ FRg (t + 1) (t + 14) σ τ := by
  unfold f_X8_takeActed
  rw [ht.1, hs.1]
  obtain ⟨σ1, e1, l1, i1, _, a0, a1, a2⟩ := c_takeRules (σ := σ) ht.2.2.2.1 hs.2.2.2.1 (by omega)
  rw [e1, e_bs]
  have m1 : CG σ1 (t + 1) X.1 := h.1.copied a0 a1 a2
  have hl := loop_inv (body := fun (z3 : (Mem × Int32)) => l_X8_takeActed_13 t s z3.1 z3.2) (fun n z => ∃ r τ, r ≤ 10 ∧ n = 10 - r ∧ z = (τ, i32 r) ∧ OL (fun x => t + 5 ≤ x ∧ x ≤ t + 14) σ1 τ ∧ ∀ q, q < r → ∀ i, i < 6 → τ.2 (t + 5 + q) i = oi (X.2 q i)) (fun τ => OL (fun x => t + 5 ≤ x ∧ x ≤ t + 14) σ1 τ ∧ ∀ q, q < 10 → ∀ i, i < 6 → τ.2 (t + 5 + q) i = oi (X.2 q i)) ?_ 10 (σ1, 0) ⟨0, σ1, by omega, rfl, rfl, OL.refl, fun q hq => absurd hq (Nat.not_lt_zero _)⟩
  · obtain ⟨τ, e2, o, v⟩ := hl
    refine ⟨τ, e2, ⟨?_, fun r i hr hi => v r hr i hi⟩, fun x hx => ⟨?_, ?_⟩⟩
    · unfold CG
      rw [o.1]
      exact m1
    · rw [o.1, i1 x (by omega) (by omega) (by omega)]
    · rw [o.2 x (by omega), l1]
  · rintro n z ⟨r, τ, hr, rfl, rfl, o, v⟩
    by_cases hr10 : r = 10
    · right
      subst hr10
      refine ⟨τ, ?_, o, v⟩
      show l_X8_takeActed_13 t s τ (i32 10) = _
      unfold l_X8_takeActed_13
      rw [if_pos (by decide)]
    · left
      have hr' : r < 10 := by omega
      obtain ⟨b1, b2⟩ := hs.2.2.2.2.2.2 r hr'
      obtain ⟨d1, d2⟩ := ht.2.2.2.2.2.2 r hr'
      obtain ⟨υ, e3, o3', v3⟩ := c_copyRow (σ := τ) (a := s + 5 + r) (b := t + 5 + r) b2 d2
      refine ⟨(υ, i32 (r + 1)), 10 - (r + 1), by omega, ?_, r + 1, υ, by omega, rfl, rfl, o.trans (o3'.mono (fun x hx => by omega)), fun q hq i hi => ?_⟩
      · show l_X8_takeActed_13 t s τ (i32 r) = _
        unfold l_X8_takeActed_13
        rw [hs.2.1, ht.2.1, i32_10, if_neg (i_nle hr' (by omega)), e_gR hs.2.2.2.2.1 hr' (by omega), b1, e_gR ht.2.2.2.2.1 hr' (by omega), d1, e3, e_bs, i32_1, i32_add]
      · by_cases h1 : q = r
        · rw [h1, v3 i hi, o.2 _ (by omega), l1]
          exact h.2 r i hr' hi
        · rw [o3'.2 _ (by omega)]
          exact v q (by omega) i hi
theorem c_clearRegs {X : GR} : ∃ τ, f_X8_clearRegisters σ 1 = some τ ∧ OL (fun x => 6 ≤ x ∧ x ≤ 15) σ τ ∧ ∀ r i, r < 10 → i < 6 → τ.2 (6 + r) i = 0 := by
  unfold f_X8_clearRegisters
  have hl := loop_inv (body := fun (z2 : (Mem × Int32)) => l_X8_clearRegisters_2 1 z2.1 z2.2) (fun n z => ∃ r τ, r ≤ 10 ∧ n = 10 - r ∧ z = (τ, i32 r) ∧ OL (fun x => 6 ≤ x ∧ x ≤ 15) σ τ ∧ ∀ q, q < r → ∀ i, i < 6 → τ.2 (6 + q) i = 0) (fun τ => OL (fun x => 6 ≤ x ∧ x ≤ 15) σ τ ∧ ∀ q, q < 10 → ∀ i, i < 6 → τ.2 (6 + q) i = 0) ?_ 10 (σ, 0) ⟨0, σ, by omega, rfl, rfl, OL.refl, fun q hq => absurd hq (Nat.not_lt_zero _)⟩
  · obtain ⟨τ, e2, o, v⟩ := hl
    exact ⟨τ, e2, o, fun r i hr hi => v r hr i hi⟩
  · rintro n z ⟨r, τ, hr, rfl, rfl, o, v⟩
    by_cases hr10 : r = 10
    · right
      subst hr10
      refine ⟨τ, ?_, o, v⟩
      show l_X8_clearRegisters_2 1 τ (i32 10) = _
      unfold l_X8_clearRegisters_2
      rw [if_pos (by decide)]
    · left
      have hr' : r < 10 := by omega
      obtain ⟨υ, e3, o3', v3⟩ := fillL (σ := τ) (a := 6 + r) (v := 0) (ln_reg hr') (by omega)
      refine ⟨(υ, i32 (r + 1)), 10 - (r + 1), by omega, ?_, r + 1, υ, by omega, rfl, rfl, o.trans (o3'.mono (fun x hx => by omega)), fun q hq i hi => ?_⟩
      · show l_X8_clearRegisters_2 1 τ (i32 r) = _
        unfold l_X8_clearRegisters_2
        rw [i32_10, if_neg (i_nle hr' (by omega)), show rf 1 1 = 5 from SA_1.2.1, e_gR ln_5 hr' (by omega), rf_5 hr', e3, e_bs, i32_1, i32_add]
      · by_cases h1 : q = r
        · rw [h1]; exact v3 i hi
        · rw [o3'.2 _ (by omega)]
          exact v q (by omega) i hi
/-- the acts, one more -/
def psh (X : GR) (L : List GR) : List GR := (X :: L).take 8
theorem psh_len {X : GR} {L : List GR} : (psh X L).length = min 8 (L.length + 1) := by
  unfold psh
  rw [List.length_take, List.length_cons]
theorem i_mod8 {a : Nat} (h : a < 16) : i32 a - i32 a / 8 * 8 = i32 (a % 8) := by
  have key : (List.range 16).all (fun a => decide (i32 a - i32 a / 8 * 8 = i32 (a % 8))) = true := by decide
  exact of_decide_eq_true (List.all_eq_true.mp key a (List.mem_range.mpr h))
theorem e_min {a b : Nat} (ha : a < 2 ^ 31) (hb : b < 2 ^ 31) : f_J9_min_7cf53 σ (i32 a) (i32 b) = some (i32 (min a b)) := by
  unfold f_J9_min_7cf53
  by_cases h : b < a
  · rw [if_pos (i_lt h ha), Nat.min_eq_right (by omega)]
  · rw [if_neg (i_nlt (by omega) hb), Nat.min_eq_left (by omega)]
/-- what keeping an act changes in the class: the acts' rows and two fields -/
def FAc (σ τ : Mem) : Prop := (∀ x, x ≠ 0 → x < 178 ∨ 305 < x → τ.1 x = σ.1 x) ∧ (∀ x, x < 178 ∨ 305 < x → τ.2 x = σ.2 x) ∧ ∀ c, c ≠ 4 → c ≠ 5 → τ.1 0 c = σ.1 0 c
theorem c_beginAct {X : GR} {L : List GR} (hX : CB σ 1 X) (hL : CActs σ L) (h8 : L.length ≤ 8) : ∃ τ, f_X10_beginAct σ = some τ ∧ CActs τ (psh X L) ∧ FAc σ τ := by
  obtain ⟨hm, nxt, hn8, h5, hA⟩ := hL
  obtain ⟨r33, sa⟩ := SA_act hn8
  unfold f_X10_beginAct
  obtain ⟨σ3, e3, b3, f3⟩ := c_takeActed (σ := σ) SA_1 sa (by omega) hX
  have f30 : σ3.1 0 = σ.1 0 := (f3 0 (by omega)).1
  rw [e_gF, h5, e_gR ln_33 hn8 (by omega), r33, e3, e_bs, e_gF, f30, h5, e_nzI (by decide), i32_1, i32_add, i_mod8 (by omega), e_pF, e_gF, wI_1, if_neg (by omega), f30, hm, i32_add, i32_8, e_min (by omega) (by omega), e_bs, e_pF]
  refine ⟨_, rfl, ⟨?_, (nxt + 1) % 8, by omega, ?_, fun j Y hj => ?_⟩, fun x h0 hx => ?_, fun x hx => ?_, fun c h4 h5 => ?_⟩
  · rw [wI_1, if_pos ⟨rfl, rfl⟩, psh_len, Nat.min_comm]
  · rw [wI_1, if_neg (by omega), wI_1, if_pos ⟨rfl, rfl⟩]
  · have hj8 : j < 8 := by
      have := (List.getElem?_eq_some_iff.mp hj).1
      rw [psh_len] at this
      omega
    unfold psh at hj
    rw [List.getElem?_take, if_pos hj8] at hj
    have base : CB σ3 (cA ((nxt + 1) % 8) j) Y := by
      cases j with
      | zero =>
        cases hj
        have : cA ((nxt + 1) % 8) 0 = 178 + 16 * nxt := by unfold cA; omega
        rw [this]; exact b3
      | succ j =>
        rw [List.getElem?_cons_succ] at hj
        have h1 : cA ((nxt + 1) % 8) (j + 1) = cA nxt j := by unfold cA; omega
        have h2 : cA nxt j + 16 ≤ 178 + 16 * nxt ∨ 178 + 16 * nxt + 16 ≤ cA nxt j := by unfold cA; omega
        rw [h1]
        exact (hA j Y hj).eqs (fun x q1 q2 => (f3 x (by omega)).1) (fun x q1 q2 => (f3 x (by omega)).2)
    refine base.eqs (fun x q1 q2 => ?_) (fun x _ _ => rfl)
    have : x ≠ 0 := by omega
    funext y
    rw [wI_1, if_neg (fun z => this z.1), wI_1, if_neg (fun z => this z.1)]
  · have := (f3 x (by omega)).1
    rw [← this]
    funext y
    rw [wI_1, if_neg (fun z => h0 z.1), wI_1, if_neg (fun z => h0 z.1)]
  · rw [wI_2, wI_2, (f3 x (by omega)).2]
  · rw [wI_1, if_neg (fun z => h4 z.2), wI_1, if_neg (fun z => h5 z.2), f30]
/-! the reference -/
def FKp (σ τ : Mem) : Prop := τ.2 = σ.2 ∧ (∀ x, x ≠ 306 → x ≠ 308 → τ.1 x = σ.1 x) ∧ ∀ c, c ≠ 3 → τ.1 306 c = σ.1 306 c
theorem r_shift283 : ∃ τ, loopO (fun (z14 : (Mem × Int32)) => l_X11_keepsAct_11 z14.1 z14.2) (σ, 0) = some τ ∧ OI 308 σ τ ∧ ∀ k, k < 1981 → τ.1 308 k = σ.1 308 (k + 283) := by
  refine loop_inv (body := fun (z14 : (Mem × Int32)) => l_X11_keepsAct_11 z14.1 z14.2) (fun n z => ∃ k τ, k ≤ 1981 ∧ n = 1981 - k ∧ z = (τ, i32 k) ∧ OI 308 σ τ ∧ (∀ p, p < k → τ.1 308 p = σ.1 308 (p + 283)) ∧ ∀ p, k ≤ p → τ.1 308 p = σ.1 308 p) _ ?_ 1981 (σ, 0) ⟨0, σ, by omega, rfl, rfl, ⟨rfl, fun _ _ => rfl⟩, fun p hp => absurd hp (Nat.not_lt_zero _), fun _ _ => rfl⟩
  rintro n z ⟨k, τ, hk, rfl, rfl, o, v, w⟩
  by_cases hk6 : k = 1981
  · right
    subst hk6
    refine ⟨τ, ?_, o, v⟩
    show l_X11_keepsAct_11 τ (i32 1981) = _
    unfold l_X11_keepsAct_11
    rw [if_pos (by decide)]
  · left
    refine ⟨(wI τ 308 k (σ.1 308 (k + 283)), i32 (k + 1)), 1981 - (k + 1), by omega, ?_, k + 1, _, by omega, rfl, rfl, ⟨o.1, fun x hx => ?_⟩, fun p hp => ?_, fun p hp => ?_⟩
    · show l_X11_keepsAct_11 τ (i32 k) = _
      unfold l_X11_keepsAct_11
      rw [show (1981 : Int32) = i32 1981 from rfl, if_neg (i_nle (by omega) (by omega)), i32_283, i32_add, e_gI ln_308 (by omega) (by omega), w _ (by omega), e_pI ln_308 (by omega) (by omega), i32_1, i32_add]
    · funext y; rw [wI_1, if_neg (fun z => hx z.1), o.2 x hx]
    · rw [wI_1]
      by_cases h1 : p = k
      · rw [if_pos ⟨rfl, h1⟩, h1]
      · rw [if_neg (fun z => h1 z.2)]; exact v p (by omega)
    · rw [wI_1, if_neg (by omega)]; exact w p (by omega)
theorem r_putAct {m : Nat} (hm : m < 8) (h3 : σ.1 306 3 = i32 m) : ∃ τ, loopO (fun (z7 : (Mem × Int32)) => l_X11_keepsAct_48 z7.1 z7.2) (σ, 0) = some τ ∧ OI 308 σ τ ∧ (∀ k, k < 283 → τ.1 308 (283 * m + k) = σ.1 307 k) ∧ ∀ y, y < 283 * m ∨ 283 * m + 283 ≤ y → τ.1 308 y = σ.1 308 y := by
  refine loop_inv (body := fun (z7 : (Mem × Int32)) => l_X11_keepsAct_48 z7.1 z7.2) (fun n z => ∃ k τ, k ≤ 283 ∧ n = 283 - k ∧ z = (τ, i32 k) ∧ OI 308 σ τ ∧ (∀ p, p < k → τ.1 308 (283 * m + p) = σ.1 307 p) ∧ ∀ y, y < 283 * m ∨ 283 * m + 283 ≤ y → τ.1 308 y = σ.1 308 y) _ ?_ 283 (σ, 0) ⟨0, σ, by omega, rfl, rfl, ⟨rfl, fun _ _ => rfl⟩, fun p hp => absurd hp (Nat.not_lt_zero _), fun _ _ => rfl⟩
  rintro n z ⟨k, τ, hk, rfl, rfl, o, v, w⟩
  by_cases hk6 : k = 283
  · right
    subst hk6
    refine ⟨τ, ?_, o, v, w⟩
    show l_X11_keepsAct_48 τ (i32 283) = _
    unfold l_X11_keepsAct_48
    rw [if_pos (by decide)]
  · left
    refine ⟨(wI τ 308 (283 * m + k) (σ.1 307 k), i32 (k + 1)), 283 - (k + 1), by omega, ?_, k + 1, _, by omega, rfl, rfl, ⟨o.1, fun x hx => ?_⟩, fun p hp => ?_, fun y hy => ?_⟩
    · show l_X11_keepsAct_48 τ (i32 k) = _
      unfold l_X11_keepsAct_48
      rw [i32_283, if_neg (i_nle (by omega) (by omega)), e_gF, o.2 306 (by omega), h3, e_gI ln_307 (by omega) (by omega), o.2 307 (by omega), i32_mul, i32_add, Nat.mul_comm m 283, e_pI ln_308 (by omega) (by omega), i32_1, i32_add]
    · funext y; rw [wI_1, if_neg (fun z => hx z.1), o.2 x hx]
    · rw [wI_1]
      by_cases h1 : p = k
      · rw [if_pos ⟨rfl, by omega⟩, h1]
      · rw [if_neg (by omega)]; exact v p (by omega)
    · rw [wI_1, if_neg (by omega)]; exact w y hy
theorem r_keepsAct {X : GR} {L : List GR} (hX : RB σ 307 0 X) (hL : RActs σ L) (h8 : L.length ≤ 8) : ∃ τ, f_X11_keepsAct σ = some τ ∧ RActs τ (psh X L) ∧ FKp σ τ := by
  unfold f_X11_keepsAct
  -- once there is room
  have room : ∀ (σ2 : Mem) (m : Nat), m < 8 → m + 1 = (psh X L).length → σ2.1 306 3 = i32 m → FKp σ σ2 → (∀ j Y, (psh X L)[j + 1]? = some Y → RB σ2 308 (283 * (m - 1 - j)) Y) → ∃ τ, j_X11_keepsAct_46 σ2 = some τ ∧ RActs τ (psh X L) ∧ FKp σ τ := by
    intro σ2 m hm hlen h3 f2 hR
    unfold j_X11_keepsAct_46
    obtain ⟨σ3, e3, o, v, w⟩ := r_putAct hm h3
    rw [e3, e_bs]
    unfold j_X11_keepsAct_82
    rw [e_gF, o.2 306 (by omega), h3, e_pF, i32_1, i32_add]
    have X2 : RB σ2 307 0 X := hX.eqs (f2.2.1 307 (by omega) (by omega))
    refine ⟨_, rfl, ⟨by rw [wI_1, if_pos ⟨rfl, rfl⟩, hlen], fun j Y hj => ?_⟩, o.1.trans f2.1, fun x h1 h2 => ?_, fun c hc => ?_⟩
    · have base : RB σ3 308 (283 * ((psh X L).length - 1 - j)) Y := by
        cases j with
        | zero =>
          unfold psh at hj
          rw [List.getElem?_take, if_pos (by omega)] at hj
          cases hj
          rw [← hlen, show m + 1 - 1 - 0 = m by omega]
          refine X2.copied (fun k hk => ?_)
          rw [v k hk, Nat.zero_add]
        | succ j =>
          have hjl := (List.getElem?_eq_some_iff.mp hj).1
          rw [← hlen, show m + 1 - 1 - (j + 1) = m - 1 - j by omega]
          refine (hR j Y hj).copied (fun k hk => w _ ?_)
          omega
      exact base.eqs (by funext y; rw [wI_1, if_neg (by omega)])
    · funext y
      rw [wI_1, if_neg (fun z => h1 z.1), o.2 x h2, f2.2.1 x h1 h2]
    · rw [wI_1, if_neg (fun z => hc z.2), o.2 306 (by omega), f2.2.2 c hc]
  rw [e_gF, hL.1]
  by_cases hm : L.length = 8
  · obtain ⟨σ1, e1, o, v⟩ := r_shift283 (σ := σ)
    rw [hm, if_pos (show i32 8 = 8 from rfl), e1, e_bs]
    unfold j_X11_keepsAct_40
    rw [e_pF, e_bs]
    refine room _ 7 (by omega) (by rw [psh_len, hm]; rfl) (by rw [wI_1, if_pos ⟨rfl, rfl⟩]; rfl) ⟨o.1, fun x h1 h2 => by funext y; rw [wI_1, if_neg (fun z => h1 z.1), o.2 x h2], fun c hc => by rw [wI_1, if_neg (fun z => hc z.2), o.2 306 (by omega)]⟩ (fun j Y hj => ?_)
    have hj8 : j + 1 < 8 := by
      have := (List.getElem?_eq_some_iff.mp hj).1
      rw [psh_len] at this
      omega
    unfold psh at hj
    rw [List.getElem?_take, if_pos hj8, List.getElem?_cons_succ] at hj
    have h1 := hL.2 j Y hj
    rw [hm] at h1
    refine (h1.copied (τ := σ1) (b := 308) (p := 283 * (7 - 1 - j)) (fun k hk => ?_)).eqs (by funext y; rw [wI_1, if_neg (by omega)])
    rw [v _ (by omega), show 283 * (7 - 1 - j) + k + 283 = 283 * (8 - 1 - j) + k by omega]
  · rw [if_neg (show ¬ i32 L.length = 8 from i_ne (b := 8) hm (by omega) (by omega)), e_bs]
    refine room σ L.length (by omega) (by rw [psh_len]; omega) hL.1 ⟨rfl, fun _ _ _ => rfl, fun _ _ => rfl⟩ (fun j Y hj => ?_)
    have hj8 : j + 1 < 8 := by
      have := (List.getElem?_eq_some_iff.mp hj).1
      rw [psh_len] at this
      omega
    unfold psh at hj
    rw [List.getElem?_take, if_pos hj8, List.getElem?_cons_succ] at hj
    exact hL.2 j Y hj
end AC
end
section
/-! the class's groups: rules made, acts undone -/
section CGR
variable {σ : Mem} {G : GD}
theorem CG.inj {a : Nat} {G' : GD} (hG : GOK G) (hG' : GOK G') (h : CG σ a G) (h' : CG σ a G') : G = G' := by
  have n1 := hG.2.1
  have n2 := hG'.2.1
  have en : gn G = gn G' := by
    have := h.1.symm.trans h'.1
    rw [i32_eq (by omega) (by omega)] at this
    exact this
  have ew : gw G = gw G' := funext (fun i => by
    by_cases hi : i < gn G
    · have := (h.2.1 i (by omega)).symm.trans (h'.2.1 i (by omega))
      have b1 := (hG.2.2.1 i hi).2
      have b2 := (hG'.2.2.1 i (by omega)).2
      rw [i32_eq (by omega) (by omega)] at this
      exact this
    · rw [hG.2.2.2.2.1 i (by omega), hG'.2.2.2.2.1 i (by omega)])
  have et : gt G = gt G' := by
    funext j i k
    by_cases hk : i < j ∧ j < k ∧ k < gn G
    · have := (h.2.2 j i k (by omega) (by omega) (by omega)).symm.trans (h'.2.2 j i k (by omega) (by omega) (by omega))
      have b1 := hG.2.2.2.2.2.1 j i k
      have b2 := hG'.2.2.2.2.2.1 j i k
      rw [i32_eq (by omega) (by omega)] at this
      exact this
    · have z1 : gt G j i k = 0 := Classical.byContradiction (fun z => hk (by have := hG.2.2.2.2.2.2 j i k z; omega))
      have z2 : gt G' j i k = 0 := Classical.byContradiction (fun z => hk (by have := hG'.2.2.2.2.2.2 j i k z; omega))
      rw [z1, z2]
  exact Prod.ext en (Prod.ext ew et)
/-- all but the registers' group, and the law -/
def CRest (S : AS) (σ : Mem) : Prop := CTd σ 16 (aT S) ∧ CActs σ (aA S) ∧ CImg σ (aI S) ∧ CTape σ (aP S) ∧ (σ.1 144 0 = (aF S).1 ∧ σ.1 144 1 = (aF S).2)
theorem ICls.mk {c : Nat} {S : AS} (h1 : CB σ 1 (aX S)) (h2 : CRest S σ) (h3 : CLaw c σ (aG S)) : ICls c S σ := ⟨h1, h2.1, h2.2.1, h2.2.2.1, h2.2.2.2.1, h2.2.2.2.2, h3⟩
theorem ICls.rest {c : Nat} {S : AS} (h : ICls c S σ) : CRest S σ := ⟨h.2.1, h.2.2.1, h.2.2.2.1, h.2.2.2.2.1, h.2.2.2.2.2.1⟩
theorem ICls.law {c : Nat} {S : AS} (h : ICls c S σ) : CLaw c σ (aG S) := h.2.2.2.2.2.2
theorem CRest.eqs {S : AS} {τ : Mem} (h : CRest S σ) (f : ∀ x, x = 0 ∨ (16 ≤ x ∧ x ≤ 34) ∨ (178 ≤ x ∧ x < 306) → τ.1 x = σ.1 x ∧ τ.2 x = σ.2 x) (f1 : ∀ c, c < 2 → τ.1 144 c = σ.1 144 c) : CRest S τ := by
  obtain ⟨h2, h3, h4, h5, h6⟩ := h
  have f0 := (f 0 (by omega)).1
  exact ⟨h2.eqs (f 16 (by omega)).1, h3.eqs f0 (fun x a b => (f x (by omega)).1) (fun x a b => (f x (by omega)).2), ⟨by rw [f0]; exact h4.1, fun y hy => ⟨(h4.2 y hy).1.eqs (fun x a b => (f x (by omega)).1) (fun x a b => (f x (by omega)).2), (h4.2 y hy).2.eqs (f 32 (by omega)).1⟩⟩, ⟨by rw [f0]; exact h5.1, fun p x hp => by rw [(f 34 (by omega)).1]; exact h5.2 p x hp⟩, by rw [f1 0 (by omega)]; exact h6.1, by rw [f1 1 (by omega)]; exact h6.2⟩
theorem c_followed {c : Nat} {G' : GD} (hc : c < 520) (hG : GOK G) (hG' : GOK G') (hl : CLaw c σ G) (h : CG σ 2 G') : ∃ τ, f_X4_follow σ 2 = some τ ∧ FWo σ τ ∧ CLaw (c + 1) τ G' := by
  obtain ⟨m, l, ed, bd, e1, e2, e3, e4, e5⟩ := hl
  obtain ⟨τ, e, f, m', l', hed⟩ := c_follow hG' h e1 (fun z => by rw [CG.inj hG' hG z m]; exact l)
  refine ⟨τ, e, f, m', l', ?_⟩
  rcases hed with rfl | hed
  · have : G' = G := CG.inj hG' hG m' m
    subst this
    exact ⟨ed, bd, e1, e2, e3, by omega, e5⟩
  · exact ⟨ed + 1, bd, hed, by rw [(f 128 (by omega)).1]; exact e2, by omega, by omega, fun z => by omega⟩
/-- an act kept, registers one -/
theorem c_beginGroup {c : Nat} {S : AS} (h : ICls c S σ) (ok : OKS S) : ∃ τ, f_X10_beginGroupAct σ = some τ ∧ CRest (aX S, aT S, psh (aX S) (aA S), aI S, aP S, aF S) τ ∧ CLaw c τ (aG S) ∧ CG τ 2 (aG S) ∧ (∀ r i, r < 10 → i < 6 → τ.2 (6 + r) i = 0) ∧ HI σ τ := by
  unfold f_X10_beginGroupAct
  obtain ⟨σ1, e1, a1, f1⟩ := c_beginAct h.1 h.2.2.1 ok.2.2.1.1
  obtain ⟨σ2, e2, o2, v2⟩ := c_clearRegs (σ := σ1) (X := aX S)
  rw [e1, e_bs, e2, e_bs]
  obtain ⟨h2, h3, h4, h5, h6⟩ := h.rest
  have g : ∀ x, x ≠ 0 → x < 178 ∨ 305 < x → σ2.1 x = σ.1 x := fun x h0 hx => by rw [o2.1]; exact f1.1 x h0 hx
  have g2 : ∀ x, (x < 178 ∨ 305 < x) → ¬ (6 ≤ x ∧ x ≤ 15) → σ2.2 x = σ.2 x := fun x hx hn => by rw [o2.2 x hn]; exact f1.2.1 x hx
  have g0 : ∀ c, c ≠ 4 → c ≠ 5 → σ2.1 0 c = σ.1 0 c := fun c c1 c2 => by rw [o2.1]; exact f1.2.2 c c1 c2
  refine ⟨σ2, rfl, ⟨h2.eqs (g 16 (by omega) (by omega)), a1.eqs (by rw [o2.1]) (fun x b1 b2 => by rw [o2.1]) (fun x b1 b2 => o2.2 x (by omega)), ⟨by rw [g0 2 (by omega) (by omega)]; exact h4.1, fun y hy => ⟨(h4.2 y hy).1.eqs (fun x a b => g x (by omega) (by omega)) (fun x a b => g2 x (by omega) (by omega)), (h4.2 y hy).2.eqs (g 32 (by omega) (by omega))⟩⟩, ⟨by rw [g0 7 (by omega) (by omega)]; exact h5.1, fun p x hp => by rw [g 34 (by omega) (by omega)]; exact h5.2 p x hp⟩, by rw [g 144 (by omega) (by omega)]; exact h6.1, by rw [g 144 (by omega) (by omega)]; exact h6.2⟩, h.law.eqs (fun c _ => by rw [g 40 (by omega) (by omega)]) (fun x hx => g x (by omega) (by omega)) (fun x hx => g2 x (by omega) (by omega)), ?_, v2, fun x hx => ⟨g x (by omega) (by omega), g2 x (by omega) (by omega)⟩⟩
  have := h.1.1
  unfold CG
  rw [g 2 (by omega) (by omega), g (2 + 1) (by omega) (by omega), g (2 + 2) (by omega) (by omega)]
  exact this
/-- the rules alone -/
def FRu (σ τ : Mem) : Prop := τ.2 = σ.2 ∧ (∀ x, x ≠ 2 → x ≠ 3 → x ≠ 4 → τ.1 x = σ.1 x)
/-- the end of a call that makes a group -/
theorem c_newGroup {c : Nat} {S : AS} {G' : GD} {τ : Mem} (hc : c < 520) (hG : GOK (aG S)) (hG' : GOK G') (hr : CRest S σ) (hl : CLaw c σ (aG S)) (hz : ∀ r i, r < 10 → i < 6 → σ.2 (6 + r) i = 0) (f : FRu σ τ) (hm : CG τ 2 G') : ∃ υ, f_X4_follow τ 2 = some υ ∧ ICls (c + 1) ((G', fun _ _ => 0), aT S, aA S, aI S, aP S, aF S) υ ∧ HI σ υ := by
  have hl' : CLaw c τ (aG S) := hl.eqs (fun c _ => by rw [f.2 40 (by omega) (by omega) (by omega)]) (fun x hx => f.2 x (by omega) (by omega) (by omega)) (fun x hx => by rw [f.1])
  obtain ⟨υ, e, w, l⟩ := c_followed hc hG hG' hl' hm
  refine ⟨υ, e, ICls.mk ⟨?_, fun r i hr hi => ?_⟩ (hr.eqs (fun x hx => ⟨by rw [(w x (by omega)).1, f.2 x (by omega) (by omega) (by omega)], by rw [(w x (by omega)).2, f.1]⟩) (fun c _ => by rw [(w 144 (by omega)).1, f.2 144 (by omega) (by omega) (by omega)])) l, fun x hx => ⟨by rw [(w x (by omega)).1, f.2 x (by omega) (by omega) (by omega)], by rw [(w x (by omega)).2, f.1]⟩⟩
  · show CG υ 2 G'
    unfold CG
    rw [(w 2 (by omega)).1, (w (2 + 1) (by omega)).1, (w (2 + 2) (by omega)).1]
    exact hm
  · rw [(w _ (by omega)).2, f.1]
    have := hz r i hr hi
    rw [show 1 + 5 + r = 6 + r by omega, this]; rfl
/-! numbers of weights -/
def dgt (w i : Nat) : Nat := w / 4 ^ i % 4
def ah (w : Nat) : Nat → Nat
  | 0 => 1
  | i + 1 => dgt w i
def OKW (n w : Nat) : Prop := 1 ≤ n ∧ n ≤ 6 ∧ w < 4 ^ n ∧ ∀ i, i < n → ah w i ≤ dgt w i
theorem dgt_lt {w i : Nat} : dgt w i < 4 := Nat.mod_lt _ (by omega)
theorem i_dgt {w i : Nat} (hw : w < 2 ^ 31) (hi : i < 6) : (i32 w >>> ((2 * i32 i) &&& 31)) &&& 3 = i32 (dgt w i) := by
  have hs : ∀ i, i < 6 → (((2 : Int32) * i32 i &&& 31).toBitVec.smod 32).toNat = 2 * i := by
    have key : (List.range 6).all (fun i => decide ((((2 : Int32) * i32 i &&& 31).toBitVec.smod 32).toNat = 2 * i)) = true := by decide
    intro i hi
    exact of_decide_eq_true (List.all_eq_true.mp key i (List.mem_range.mpr hi))
  have h1 : i32 w >>> ((2 * i32 i) &&& 31) = i32 (w / 2 ^ (2 * i)) := pk_shrN (n := w) hw _ _ (hs i hi)
  have h2 : ∀ a, i32 a &&& 3 = i32 (a % 4) := fun a => i_andmask a 2
  rw [h1, h2, Nat.pow_mul]
  rfl
def GW (n w : Nat) : GD := (n, fun i => dgt w i, fun _ _ _ => 0)
theorem dgt_hi {w n i : Nat} (hw : w < 4 ^ n) (hi : n ≤ i) : dgt w i = 0 := by
  unfold dgt
  rw [Nat.div_eq_of_lt (Nat.lt_of_lt_of_le hw (Nat.pow_le_pow_right (by omega) hi))]
theorem GW_ok {n w : Nat} (h : OKW n w) : GOK (GW n w) := by
  obtain ⟨h1, h6, hw, hd⟩ := h
  have pos : ∀ i, i < n → 1 ≤ dgt w i := by
    intro i
    induction i with
    | zero => intro hi; exact hd 0 hi
    | succ i ih =>
      intro hi
      have a1 := ih (by omega)
      have a2 : dgt w i ≤ dgt w (i + 1) := hd (i + 1) hi
      omega
  have asc : ∀ d i, i + d < n → dgt w i ≤ dgt w (i + d) := by
    intro d
    induction d with
    | zero => intro i _; exact Nat.le_refl _
    | succ d ih =>
      intro i hi
      have a1 := ih i (by omega)
      have a2 : dgt w (i + d) ≤ dgt w (i + d + 1) := hd (i + d + 1) (by omega)
      rw [show i + (d + 1) = i + d + 1 by omega]
      omega
  refine ⟨h1, h6, fun i hi => ⟨pos i hi, ?_⟩, fun i j hij hj => ?_, fun i hi => dgt_hi hw hi, fun _ _ _ => Nat.zero_le _, fun j i k hk => absurd rfl hk⟩
  · have := dgt_lt (w := w) (i := i)
    show dgt w i ≤ 3
    omega
  · obtain ⟨d, rfl⟩ : ∃ d, j = i + d := ⟨j - i, by omega⟩
    exact asc d i hj
theorem c_areWeights {x y : Int32} : ∃ b, f_X6_areWeights σ x y = some b ∧ (b = true ↔ ∃ n w, x = i32 n ∧ y = i32 w ∧ OKW n w) := by
  unfold f_X6_areWeights
  have nope : (¬ (1 ≤ x.toInt ∧ x.toInt ≤ 6 ∧ 0 ≤ y.toInt)) → ¬ ∃ n w, x = i32 n ∧ y = i32 w ∧ OKW n w := by
    rintro hno ⟨n, w, rfl, rfl, h1, h6, hw, _⟩
    have h4 : 4 ^ n ≤ 4 ^ 6 := Nat.pow_le_pow_right (by omega) h6
    rw [i32_toInt (by omega), i32_toInt (by omega)] at hno
    omega
  have no : ∀ {P : Prop}, ¬ P → ∃ b, (some false : Option Bool) = some b ∧ (b = true ↔ P) := fun hP => ⟨false, rfl, ⟨fun z => absurd z (by decide), fun z => absurd z hP⟩⟩
  by_cases h1 : x < 1
  · rw [if_pos h1]
    have := (lt32 (k := 1) (by omega)).mp h1
    exact no (nope (by omega))
  · have h1' : ¬ x.toInt < 1 := fun z => h1 ((lt32 (k := 1) (by omega)).mpr z)
    rw [if_neg h1]
    by_cases h2 : 6 < x
    · rw [if_pos h2]
      have := (gt32 (k := 6) (by omega)).mp h2
      exact no (nope (by omega))
    · have h2' : ¬ (6 : Int) < x.toInt := fun z => h2 ((gt32 (k := 6) (by omega)).mpr z)
      rw [if_neg h2]
      by_cases h3 : y < 0
      · rw [if_pos h3]
        have := (lt32 (k := 0) (by omega)).mp h3
        exact no (nope (by omega))
      · have h3' : ¬ y.toInt < 0 := fun z => h3 ((lt32 (k := 0) (by omega)).mpr z)
        rw [if_neg h3]
        have hx := i32_of (x := x) (by omega)
        have hy := i32_of (x := y) (by omega)
        have hyl := Int32.toInt_lt y
        have hn : x.toInt.toNat ≤ 6 := by omega
        have hn1 : 1 ≤ x.toInt.toNat := by omega
        have hw : y.toInt.toNat < 2 ^ 31 := by omega
        generalize x.toInt.toNat = n at hx hn hn1
        generalize y.toInt.toNat = w at hy hw
        subst hx
        subst hy
        have hs : ∀ n, n ≤ 6 → ((1 : Int32) <<< ((2 * i32 n) &&& 31)) = i32 (4 ^ n) := by
          have key : (List.range 7).all (fun n => decide (((1 : Int32) <<< ((2 * i32 n) &&& 31)) = i32 (4 ^ n))) = true := by decide
          intro n hn
          exact of_decide_eq_true (List.all_eq_true.mp key n (List.mem_range.mpr (by omega)))
        have h4n : 4 ^ n ≤ 4 ^ 6 := Nat.pow_le_pow_right (by omega) hn
        have uniq : (∃ n' w', i32 n = i32 n' ∧ i32 w = i32 w' ∧ OKW n' w') ↔ OKW n w := by
          constructor
          · rintro ⟨n', w', e1, e2, ok⟩
            have h4 : 4 ^ n' ≤ 4 ^ 6 := Nat.pow_le_pow_right (by omega) ok.2.1
            have a1 := ok.2.2.1
            have a2 := ok.2.1
            rw [i32_eq (by omega) (by omega)] at e1 e2
            rw [e1, e2]; exact ok
          · exact fun ok => ⟨n, w, rfl, rfl, ok⟩
        rw [hs n hn]
        by_cases h5 : w < 4 ^ n
        · rw [if_pos (i_lt h5 (by omega))]
          have hl := loop_inv (body := fun (z2 : (Int32 × Int32)) => l_X6_areWeights_30 (i32 n) (i32 w) z2.1 z2.2) (fun m z => ∃ i, i ≤ n ∧ m = n - i ∧ z = (i32 (ah w i), i32 i) ∧ ∀ p, p < i → ah w p ≤ dgt w p) (fun b => b = true ↔ OKW n w) ?_ n (1, 0) ⟨0, by omega, rfl, rfl, fun p hp => absurd hp (Nat.not_lt_zero _)⟩
          · obtain ⟨b, e, hb⟩ := hl
            exact ⟨b, e, hb.trans uniq.symm⟩
          · rintro m z ⟨i, hi, rfl, rfl, hv⟩
            have hah : ah w i < 4 := by
              cases i with
              | zero => show 1 < 4; omega
              | succ i => exact dgt_lt
            have hdg := dgt_lt (w := w) (i := i)
            by_cases hin : i = n
            · right
              subst hin
              refine ⟨true, ?_, ⟨fun _ => ⟨hn1, hn, h5, hv⟩, fun _ => rfl⟩⟩
              show l_X6_areWeights_30 _ _ _ (i32 i) = _
              unfold l_X6_areWeights_30
              rw [if_pos (i_le (Nat.le_refl _) (by omega))]
            · by_cases hq : ah w i ≤ dgt w i
              · left
                refine ⟨(i32 (ah w (i + 1)), i32 (i + 1)), n - (i + 1), by omega, ?_, i + 1, by omega, rfl, rfl, fun p hp => ?_⟩
                · show l_X6_areWeights_30 (i32 n) (i32 w) (i32 (ah w i)) (i32 i) = _
                  unfold l_X6_areWeights_30
                  rw [if_neg (i_nle (by omega) (by omega)), i_dgt hw (by omega), e_bd, if_pos (i_le hq (by omega)), i32_1, i32_add]
                  rfl
                · by_cases h6 : p = i
                  · rw [h6]; exact hq
                  · exact hv p (by omega)
              · right
                refine ⟨false, ?_, ⟨fun z => absurd z (by decide), fun z => absurd (z.2.2.2 i (by omega)) hq⟩⟩
                show l_X6_areWeights_30 (i32 n) (i32 w) (i32 (ah w i)) (i32 i) = _
                unfold l_X6_areWeights_30
                rw [if_neg (i_nle (by omega) (by omega)), i_dgt hw (by omega), e_bd, if_neg (i_nle (by omega) (by omega))]
        · rw [if_neg (i_nlt (by omega) (by omega))]
          exact no (fun z => h5 (uniq.mp z).2.2.1)
/-- rules made anew -/
theorem c_reset {n w : Nat} (hn : n ≤ 6) (hw : w < 2 ^ 31) : ∃ τ, f_X6_reset σ 2 (i32 n) (i32 w) = some τ ∧ FRu σ τ ∧ CG τ 2 (GW n w) := by
  unfold f_X6_reset
  rw [e_pF]
  have hl := loop_inv (body := fun (z5 : (Mem × Int32)) => l_X6_reset_7 2 (i32 w) z5.1 z5.2) (fun m z => ∃ i τ, i ≤ 6 ∧ m = 6 - i ∧ z = (τ, i32 i) ∧ τ.2 = σ.2 ∧ (∀ x, x ≠ 2 → x ≠ 3 → τ.1 x = σ.1 x) ∧ τ.1 2 0 = i32 n ∧ ∀ p, p < i → τ.1 3 p = i32 (dgt w p)) (fun τ => τ.2 = σ.2 ∧ (∀ x, x ≠ 2 → x ≠ 3 → τ.1 x = σ.1 x) ∧ τ.1 2 0 = i32 n ∧ ∀ p, p < 6 → τ.1 3 p = i32 (dgt w p)) ?_ 6 (wI σ 2 0 (i32 n), 0) ⟨0, _, by omega, rfl, rfl, rfl, fun x h1 h2 => by funext y; rw [wI_1, if_neg (fun z => h1 z.1)], by rw [wI_1, if_pos ⟨rfl, rfl⟩], fun p hp => absurd hp (Nat.not_lt_zero _)⟩
  · obtain ⟨τ, e, l1, i1, n1, v1⟩ := hl
    rw [e, e_bs]
    unfold j_X6_reset_32
    obtain ⟨υ, e2, o2, v2⟩ := fillI (σ := τ) (a := rf 2 2) (n := 216) (v := 0) (by rw [RR2_2.2.1]; exact ln_4) (by omega)
    rw [RR2_2.2.1] at e2 o2 v2
    rw [RR2_2.2.1, e2, e_bs]
    refine ⟨υ, rfl, ⟨o2.1.trans l1, fun x h1 h2 h3 => by rw [o2.2 x h3, i1 x h1 h2]⟩, ?_, fun i hi => ?_, fun j i k hj hi hk => ?_⟩
    · rw [o2.2 2 (by omega)]; exact n1
    · rw [o2.2 (2 + 1) (by omega)]; exact v1 i hi
    · exact v2 _ (by omega)
  · rintro m z ⟨i, τ, hi, rfl, rfl, l1, i1, n1, v1⟩
    by_cases hi6 : i = 6
    · right
      subst hi6
      refine ⟨τ, ?_, l1, i1, n1, v1⟩
      show l_X6_reset_7 2 (i32 w) τ (i32 6) = _
      unfold l_X6_reset_7
      rw [if_pos (by decide)]
    · left
      refine ⟨(wI τ 3 i (i32 (dgt w i)), i32 (i + 1)), 6 - (i + 1), by omega, ?_, i + 1, _, by omega, rfl, rfl, l1, fun x h1 h2 => by funext y; rw [wI_1, if_neg (fun z => h2 z.1), i1 x h1 h2], by rw [wI_1, if_neg (by omega)]; exact n1, fun p hp => ?_⟩
      · show l_X6_reset_7 2 (i32 w) τ (i32 i) = _
        unfold l_X6_reset_7
        rw [i32_6, if_neg (i_nle (by omega) (by omega)), RR2_2.1, i_dgt hw (by omega), e_pI ln_3 (by omega) (by omega), i32_1, i32_add]
      · rw [wI_1]
        by_cases h1 : p = i
        · rw [if_pos ⟨rfl, h1⟩, h1]
        · rw [if_neg (fun z => h1 z.2)]; exact v1 p (by omega)
/-- a tail put -/
def upT (G : GD) (j i k v : Nat) : GD := (gn G, gw G, fun a b c => if a = j ∧ b = i ∧ c = k then v else gt G a b c)
theorem upT_ok (hG : GOK G) {j i k v : Nat} (hv : v ≤ 3) (h : i < j ∧ j < k ∧ k < gn G) (hw : v = 0 ∨ gw G i + gw G j ≤ gw G k) : GOK (upT G j i k v) := by
  refine ⟨hG.1, hG.2.1, hG.2.2.1, hG.2.2.2.1, hG.2.2.2.2.1, fun a b c => ?_, fun a b c hne => ?_⟩
  · show (if a = j ∧ b = i ∧ c = k then v else gt G a b c) ≤ 3
    split
    · exact hv
    · exact hG.2.2.2.2.2.1 a b c
  · have hne' : (if a = j ∧ b = i ∧ c = k then v else gt G a b c) ≠ 0 := hne
    by_cases h1 : a = j ∧ b = i ∧ c = k
    · rw [if_pos h1] at hne'
      obtain ⟨rfl, rfl, rfl⟩ := h1
      exact ⟨h.1, h.2.1, h.2.2, hw.resolve_left hne'⟩
    · rw [if_neg h1] at hne'
      exact hG.2.2.2.2.2.2 a b c hne'
theorem c_write {j i k v : Nat} (hn : gn G ≤ 6) (h : CG σ 2 G) (hi : i < j) (hj : j < k) (hk : k < gn G) : ∃ τ, f_X6_write σ 2 (i32 j) (i32 i) (i32 k) (i32 v) = some τ ∧ FRu σ τ ∧ CG τ 2 (upT G j i k v) := by
  unfold f_X6_write
  have ht : f_X6_isTail σ 2 (i32 j) (i32 i) (i32 k) = some true := by
    unfold f_X6_isTail
    rw [if_neg (show ¬ i32 i < 0 from i_nlt (b := 0) (by omega) (by omega)), if_neg (i_nle hi (by omega)), if_neg (i_nle hj (by omega)), e_gF, h.1, if_neg (i_nle hk (by omega))]
    rfl
  rw [ht, e_bs, if_pos rfl, RR2_2.2.1, i32_6, i32_mul, i32_add, i32_mul, i32_add, e_pI ln_4 (by omega) (by omega)]
  refine ⟨_, rfl, ⟨rfl, fun x h1 h2 h3 => by funext y; rw [wI_1, if_neg (fun z => h3 z.1)]⟩, ?_, fun a ha => ?_, fun a b c ha hb hc => ?_⟩
  · rw [wI_1, if_neg (by omega)]; exact h.1
  · rw [wI_1, if_neg (by omega)]; exact h.2.1 a ha
  · rw [wI_1]
    show _ = i32 (if a = j ∧ b = i ∧ c = k then v else gt G a b c)
    by_cases h1 : a = j ∧ b = i ∧ c = k
    · rw [if_pos ⟨rfl, by rw [h1.1, h1.2.1, h1.2.2]⟩, if_pos h1]
    · rw [if_neg (by omega), if_neg h1]
      exact h.2.2 a b c ha hb hc
end CGR
end
section
/-! the reference's groups: rules made, acts undone, the image -/
section RGR
variable {σ : Mem} {G : GD}
/-- a loop that copies ints -/
theorem loop_copyI {body : Mem × Int32 → Option ((Mem × Int32) ⊕ Mem)} {a b o p N : Nat} (hab : a ≠ b) (hs : ∀ τ k, k < N → OI b σ τ → body (τ, i32 k) = some (Sum.inl (wI τ b (p + k) (τ.1 a (o + k)), i32 (k + 1)))) (he : ∀ τ, OI b σ τ → body (τ, i32 N) = some (Sum.inr τ)) : ∃ τ, loopO body (σ, 0) = some τ ∧ OI b σ τ ∧ (∀ k, k < N → τ.1 b (p + k) = σ.1 a (o + k)) ∧ ∀ y, y < p ∨ p + N ≤ y → τ.1 b y = σ.1 b y := by
  refine loop_inv (body := body) (fun n z => ∃ k τ, k ≤ N ∧ n = N - k ∧ z = (τ, i32 k) ∧ OI b σ τ ∧ (∀ q, q < k → τ.1 b (p + q) = σ.1 a (o + q)) ∧ ∀ y, y < p ∨ p + N ≤ y → τ.1 b y = σ.1 b y) _ ?_ N (σ, 0) ⟨0, σ, Nat.zero_le _, rfl, rfl, ⟨rfl, fun _ _ => rfl⟩, fun q hq => absurd hq (Nat.not_lt_zero _), fun _ _ => rfl⟩
  rintro n z ⟨k, τ, hk, rfl, rfl, oi', v, w⟩
  by_cases hkN : k = N
  · right
    subst hkN
    exact ⟨τ, he τ oi', oi', v, w⟩
  · left
    refine ⟨(wI τ b (p + k) (τ.1 a (o + k)), i32 (k + 1)), N - (k + 1), by omega, hs τ k (by omega) oi', k + 1, _, by omega, rfl, rfl, ⟨oi'.1, fun x hx => ?_⟩, fun q hq => ?_, fun y hy => ?_⟩
    · funext y; rw [wI_1, if_neg (fun z => hx z.1), oi'.2 x hx]
    · rw [wI_1]
      by_cases h1 : q = k
      · rw [if_pos ⟨rfl, by omega⟩, h1, oi'.2 a hab]
      · rw [if_neg (by omega)]; exact v q (by omega)
    · rw [wI_1, if_neg (by omega)]; exact w y hy
/-- a loop that fills ints -/
theorem loop_zeroI {body : Mem × Int32 → Option ((Mem × Int32) ⊕ Mem)} {b s N : Nat} (hsN : s ≤ N) (hs : ∀ τ k, s ≤ k → k < N → OI b σ τ → body (τ, i32 k) = some (Sum.inl (wI τ b k 0, i32 (k + 1)))) (he : ∀ τ, OI b σ τ → body (τ, i32 N) = some (Sum.inr τ)) : ∃ τ, loopO body (σ, i32 s) = some τ ∧ OI b σ τ ∧ (∀ k, s ≤ k → k < N → τ.1 b k = 0) ∧ ∀ y, y < s → τ.1 b y = σ.1 b y := by
  refine loop_inv (body := body) (fun n z => ∃ k τ, s ≤ k ∧ k ≤ N ∧ n = N - k ∧ z = (τ, i32 k) ∧ OI b σ τ ∧ (∀ q, s ≤ q → q < k → τ.1 b q = 0) ∧ ∀ y, y < s → τ.1 b y = σ.1 b y) _ ?_ (N - s) (σ, i32 s) ⟨s, σ, Nat.le_refl _, hsN, rfl, rfl, ⟨rfl, fun _ _ => rfl⟩, fun q h1 h2 => by omega, fun _ _ => rfl⟩
  rintro n z ⟨k, τ, hsk, hk, rfl, rfl, oi', v, w⟩
  by_cases hkN : k = N
  · right
    subst hkN
    exact ⟨τ, he τ oi', oi', v, w⟩
  · left
    refine ⟨(wI τ b k 0, i32 (k + 1)), N - (k + 1), by omega, hs τ k hsk (by omega) oi', k + 1, _, by omega, by omega, rfl, rfl, ⟨oi'.1, fun x hx => ?_⟩, fun q h1 h2 => ?_, fun y hy => ?_⟩
    · funext y; rw [wI_1, if_neg (fun z => hx z.1), oi'.2 x hx]
    · rw [wI_1]
      by_cases h3 : q = k
      · rw [if_pos ⟨rfl, h3⟩]
      · rw [if_neg (fun z => h3 z.2)]; exact v q h1 (by omega)
    · rw [wI_1, if_neg (by omega)]; exact w y hy
theorem r_keep2 {S : AS} (h : IRef S σ) (ok : OKS S) : ∃ τ, f_X11_keepsAct σ = some τ ∧ IRef (aX S, aT S, psh (aX S) (aA S), aI S, aP S, aF S) τ ∧ LO σ τ ∧ τ.2 = σ.2 ∧ τ.1 307 = σ.1 307 := by
  obtain ⟨τ, e, ra, f⟩ := r_keepsAct h.1 h.2.2.1 ok.2.2.1.1
  obtain ⟨h1, h2, h3, h4, h5, h6, h7, h8⟩ := h
  have g : ∀ x, x ≠ 306 → x ≠ 308 → τ.1 x = σ.1 x := f.2.1
  have k : ∀ c, c ≠ 3 → τ.1 306 c = σ.1 306 c := f.2.2
  refine ⟨τ, e, ⟨h1.eqs (g 307 (by omega) (by omega)), ⟨by rw [k 4 (by omega)]; exact h2.1, by rw [k 27 (by omega)]; exact h2.2.1, fun i hi => by rw [g 318 (by omega) (by omega)]; exact h2.2.2 i hi⟩, ra, ⟨by rw [k 37 (by omega)]; exact h4.1, fun y hy => by
    rw [g 323 (by omega) (by omega)]
    exact ⟨(h4.2 y hy).1.eqs (g 323 (by omega) (by omega)), (h4.2 y hy).2⟩⟩, ⟨by rw [k 18 (by omega)]; exact h5.1, fun p x hp => by rw [g 317 (by omega) (by omega)]; exact h5.2 p x hp⟩, ⟨by rw [k 19 (by omega)]; exact h6.1, by rw [k 20 (by omega)]; exact h6.2⟩, h7.eqs (k 9 (by omega)) (k 10 (by omega)) (g 311 (by omega) (by omega)) (by rw [f.1]), fun m hm => by rw [f.1]; exact h8 m hm⟩, fun x hx => ⟨g x (by omega) (by omega), by rw [f.1]⟩, f.1, g 307 (by omega) (by omega)⟩
/-- group and registers changed alone -/
def FG (σ τ : Mem) : Prop := τ.2 = σ.2 ∧ (∀ x, x ≠ 306 → x ≠ 307 → τ.1 x = σ.1 x) ∧ ∀ c, c ≠ 9 → τ.1 306 c = σ.1 306 c
theorem FG.refl : FG σ σ := ⟨rfl, fun _ _ _ => rfl, fun _ _ => rfl⟩
theorem FG.trans {τ υ : Mem} (h : FG σ τ) (k : FG τ υ) : FG σ υ := ⟨k.1.trans h.1, fun x h1 h2 => (k.2.1 x h1 h2).trans (h.2.1 x h1 h2), fun c hc => (k.2.2 c hc).trans (h.2.2 c hc)⟩
theorem FG.row {y : Nat} {v : Int32} : FG σ (wI σ 307 y v) := ⟨rfl, fun x _ h2 => by funext z; rw [wI_1, if_neg (fun q => h2 q.1)], fun c _ => by rw [wI_1, if_neg (by omega)]⟩
theorem FG.nine {v : Int32} : FG σ (wI σ 306 9 v) := ⟨rfl, fun x h1 _ => by funext z; rw [wI_1, if_neg (fun q => h1 q.1)], fun c hc => by rw [wI_1, if_neg (fun q => hc q.2)]⟩
theorem OI.fg {τ : Mem} (h : OI 307 σ τ) : FG σ τ := ⟨h.1, fun x _ h2 => h.2 x h2, fun c _ => by rw [h.2 306 (by omega)]⟩
theorem FG.lo {τ : Mem} (f : FG σ τ) : LO σ τ := fun x hx => ⟨f.2.1 x (by omega) (by omega), by rw [f.1]⟩
theorem IRef.newX {S : AS} {X : GR} {τ : Mem} (h : IRef S σ) (f : FG σ τ) (h9 : τ.1 306 9 = 0) (hX : RB τ 307 0 X) : IRef (X, aT S, aA S, aI S, aP S, aF S) τ := by
  obtain ⟨h1, h2, h3, h4, h5, h6, h7, h8⟩ := h
  have g : ∀ x, x ≠ 306 → x ≠ 307 → τ.1 x = σ.1 x := f.2.1
  have k : ∀ c, c ≠ 9 → τ.1 306 c = σ.1 306 c := f.2.2
  exact ⟨hX, ⟨by rw [k 4 (by omega)]; exact h2.1, by rw [k 27 (by omega)]; exact h2.2.1, fun i hi => by rw [g 318 (by omega) (by omega)]; exact h2.2.2 i hi⟩, ⟨by rw [k 3 (by omega)]; exact h3.1, fun j Y hj => (h3.2 j Y hj).eqs (g 308 (by omega) (by omega))⟩, ⟨by rw [k 37 (by omega)]; exact h4.1, fun y hy => by
    rw [g 323 (by omega) (by omega)]
    exact ⟨(h4.2 y hy).1.eqs (g 323 (by omega) (by omega)), (h4.2 y hy).2⟩⟩, ⟨by rw [k 18 (by omega)]; exact h5.1, fun p x hp => by rw [g 317 (by omega) (by omega)]; exact h5.2 p x hp⟩, ⟨by rw [k 19 (by omega)]; exact h6.1, by rw [k 20 (by omega)]; exact h6.2⟩, ⟨false, h9, fun z => absurd z (by decide)⟩, fun m hm => by rw [f.1]; exact h8 m hm⟩
/-- cleared -/
def RZ (σ : Mem) (n : Nat) : Prop := σ.1 307 0 = i32 n ∧ ∀ k, 1 ≤ k → k < 283 → σ.1 307 k = 0
theorem r_clears {n : Nat} : ∃ τ, f_X11_clears σ (i32 n) = some τ ∧ FG σ τ ∧ RZ τ n ∧ τ.1 306 9 = 0 := by
  unfold f_X11_clears
  obtain ⟨σ1, e1, o1, v1, _⟩ := loop_zeroI (σ := σ) (body := fun (z5 : (Mem × Int32)) => l_X11_clears_2 z5.1 z5.2) (b := 307) (s := 0) (N := 283) (by omega) (fun τ k _ hk _ => by
    show l_X11_clears_2 τ (i32 k) = _
    unfold l_X11_clears_2
    rw [i32_283, if_neg (i_nle hk (by omega)), e_pI ln_307 (by omega) (by omega), i32_1, i32_add]) (fun τ _ => by
    show l_X11_clears_2 τ (i32 283) = _
    unfold l_X11_clears_2
    rw [if_pos (by decide)])
  have e1' : loopO (fun (z5 : (Mem × Int32)) => l_X11_clears_2 z5.1 z5.2) (σ, 0) = some σ1 := e1
  rw [e1', e_bs]
  unfold j_X11_clears_22
  rw [i32_0, e_pI ln_307 (by omega) (by omega), e_pF]
  refine ⟨_, rfl, (o1.fg.trans FG.row).trans FG.nine, ⟨?_, fun k h1 h2 => ?_⟩, by rw [wI_1, if_pos ⟨rfl, rfl⟩]⟩
  · rw [wI_1, if_neg (by omega), wI_1, if_pos ⟨rfl, rfl⟩]
  · rw [wI_1, if_neg (by omega), wI_1, if_neg (by omega)]; exact v1 k (by omega) h2
/-- weights alone, no tails, registers one -/
theorem RB.weights {n w : Nat} (h0 : σ.1 307 0 = i32 n) (h1 : ∀ i, i < 6 → σ.1 307 (1 + i) = i32 (dgt w i)) (h2 : ∀ k, 7 ≤ k → k < 283 → σ.1 307 k = 0) : RB σ 307 0 (GW n w, fun _ _ => 0) := by
  refine ⟨h0, fun i hi => by rw [Nat.zero_add]; exact h1 i hi, fun j i k hj hi hk => ?_, fun r i hr hi => ?_⟩
  · rw [Nat.zero_add, h2 _ (by omega) (by omega)]; rfl
  · rw [Nat.zero_add, h2 _ (by omega) (by omega)]; rfl
theorem r_putsTail {R : Nat → Nat → Int} {j i k v : Nat} (h : RB σ 307 0 (G, R)) (hj : j < 6) (hi : i < 6) (hk : k < 6) : ∃ τ, f_X11_putsTail σ (i32 j) (i32 i) (i32 k) (i32 v) = some τ ∧ FG σ τ ∧ RB τ 307 0 (upT G j i k v, R) ∧ τ.1 306 9 = 0 := by
  unfold f_X11_putsTail
  rw [i32_7, i32_36, i32_6, i32_mul, i32_mul, i32_add, i32_add, i32_add, e_pI ln_307 (by omega) (by omega), e_pF]
  refine ⟨_, rfl, FG.row.trans FG.nine, ⟨?_, fun a ha => ?_, fun a b c ha hb hc => ?_, fun r a hr ha => ?_⟩, by rw [wI_1, if_pos ⟨rfl, rfl⟩]⟩
  · rw [wI_1, if_neg (by omega), wI_1, if_neg (by omega)]; exact h.1
  · rw [wI_1, if_neg (by omega), wI_1, if_neg (by omega)]; exact h.2.1 a ha
  · rw [wI_1, if_neg (by omega), wI_1]
    show _ = i32 (if a = j ∧ b = i ∧ c = k then v else gt G a b c)
    by_cases h1 : a = j ∧ b = i ∧ c = k
    · rw [if_pos ⟨rfl, by rw [h1.1, h1.2.1, h1.2.2]; omega⟩, if_pos h1]
    · rw [if_neg (by omega), if_neg h1]
      exact h.2.2.1 a b c ha hb hc
  · rw [wI_1, if_neg (by omega), wI_1, if_neg (by omega)]; exact h.2.2.2 r a hr ha
theorem r_onesAll {R : Nat → Nat → Int} (h : RB σ 307 0 (G, R)) : ∃ τ, f_X11_onesAll σ = some τ ∧ FG σ τ ∧ RB τ 307 0 (G, fun _ _ => 0) := by
  unfold f_X11_onesAll
  obtain ⟨σ1, e1, o1, v1, w1⟩ := loop_zeroI (σ := σ) (body := fun (z2 : (Mem × Int32)) => l_X11_onesAll_4 z2.1 z2.2) (b := 307) (s := 223) (N := 283) (by omega) (fun τ k _ hk _ => by
    show l_X11_onesAll_4 τ (i32 k) = _
    unfold l_X11_onesAll_4
    rw [i32_283, if_neg (i_nle hk (by omega)), e_pI ln_307 (by omega) (by omega), i32_1, i32_add]) (fun τ _ => by
    show l_X11_onesAll_4 τ (i32 283) = _
    unfold l_X11_onesAll_4
    rw [if_pos (by decide)])
  refine ⟨σ1, e1, o1.fg, ?_, fun a ha => ?_, fun a b c ha hb hc => ?_, fun r a hr ha => ?_⟩
  · rw [w1 _ (by omega)]; exact h.1
  · rw [w1 _ (by omega)]; exact h.2.1 a ha
  · rw [w1 _ (by omega)]; exact h.2.2.1 a b c ha hb hc
  · rw [v1 _ (by omega) (by omega)]; rfl
end RGR
end
section
/-! group, tail, kind, undo, image -/
section GRP
variable {σ : Mem} {G : GD}
/-- what both come to, with a group made -/
theorem fin_new {c : Nat} {S : AS} {G' : GD} {σ τ : Mem} (ok : OKS S) (hG' : GOK G') (hc : ICls (c + 1) ((G', fun _ _ => 0), aT S, psh (aX S) (aA S), aI S, aP S, aF S) σ) (hr : IRef ((G', fun _ _ => 0), aT S, psh (aX S) (aA S), aI S, aP S, aF S) τ) (f : LO σ τ) : II (c + 1) τ := by
  refine ⟨((G', fun _ _ => 0), aT S, psh (aX S) (aA S), aI S, aP S, aF S), ⟨⟨hG', fun r i => ⟨by show (-999 : Int) ≤ 0; omega, by show (0 : Int) ≤ 999; omega⟩, fun r i _ => rfl⟩, ok.2.1, ⟨?_, fun X hX => ?_⟩, ok.2.2.2⟩, hc.lo f, hr⟩
  · show (psh (aX S) (aA S)).length ≤ 8
    rw [psh_len]; omega
  · have h1 : X ∈ aX S :: aA S := List.mem_of_mem_take hX
    rcases List.mem_cons.mp h1 with h | h
    · rw [h]; exact ok.1
    · exact ok.2.2.1.2 X h
theorem r_areWeights {n w : Nat} (h1 : 1 ≤ n) (h6 : n ≤ 6) {y : Int32} : ∃ b, f_X11_areWeights σ (i32 n) y = some b ∧ (b = true ↔ ∃ w, y = i32 w ∧ OKW n w) := by
  unfold f_X11_areWeights
  have e := r_in (σ := σ) (x := y) (l := 0) (u := 4095) ⟨by omega, by omega⟩ ⟨by omega, by omega⟩
  rw [show (0 : Int64) = oi 0 from rfl, show (4095 : Int64) = oi 4095 from rfl, e, e_bs]
  by_cases hy : 0 ≤ y.toInt ∧ y.toInt ≤ 4095
  · rw [decide_eq_true hy, if_pos rfl]
    have hyi := i32_of hy.1
    have hw : y.toInt.toNat ≤ 4095 := by omega
    generalize y.toInt.toNat = w at hyi hw
    subst hyi
    have uniq : (∃ w', i32 w = i32 w' ∧ OKW n w') ↔ OKW n w := by
      constructor
      · rintro ⟨w', e2, ok⟩
        have h4 : 4 ^ n ≤ 4 ^ 6 := Nat.pow_le_pow_right (by omega) h6
        have a1 := ok.2.2.1
        rw [i32_eq (by omega) (by omega)] at e2
        rw [e2]; exact ok
      · exact fun ok => ⟨w, rfl, ok⟩
    -- what the digits behind n tell
    have hlt : (∀ p, n ≤ p → p < 6 → dgt w p = 0) → w < 4 ^ n := by
      intro hz
      have key : ∀ d, d ≤ 6 - n → w < 4 ^ (6 - d) := by
        intro d
        induction d with
        | zero => intro _; show w < 4 ^ 6; omega
        | succ d ih =>
          intro hd
          have h2 := ih (by omega)
          have h3 := hz (6 - (d + 1)) (by omega) (by omega)
          rw [show 6 - d = (6 - (d + 1)) + 1 by omega, Nat.pow_succ] at h2
          unfold dgt at h3
          have h4 : w / 4 ^ (6 - (d + 1)) < 4 := (Nat.div_lt_iff_lt_mul (Nat.pow_pos (by omega))).mpr (by rw [Nat.mul_comm]; exact h2)
          have h5 : w / 4 ^ (6 - (d + 1)) = 0 := by
            generalize w / 4 ^ (6 - (d + 1)) = q at h3 h4 ⊢
            omega
          exact (Nat.div_eq_zero_iff_lt (Nat.pow_pos (by omega))).mp h5
      have := key (6 - n) (Nat.le_refl _)
      rwa [show 6 - (6 - n) = n by omega] at this
    have hl := loop_inv (body := fun (z3 : (Int32 × Int32)) => l_X11_areWeights_20 (i32 n) (i32 w) z3.1 z3.2) (fun m z => ∃ i, i ≤ 6 ∧ m = 6 - i ∧ z = (i32 (ah w i), i32 i) ∧ (∀ p, p < i → p < n → ah w p ≤ dgt w p) ∧ ∀ p, p < i → n ≤ p → dgt w p = 0) (fun r => (r = Sum.inr true ∧ OKW n w) ∨ ((r = Sum.inr false ∨ r = Sum.inl ()) ∧ ¬ OKW n w)) ?_ 6 (1, 0) ⟨0, by omega, rfl, rfl, fun p hp => absurd hp (Nat.not_lt_zero _), fun p hp => absurd hp (Nat.not_lt_zero _)⟩
    · obtain ⟨r, e1, ⟨rfl, hk⟩ | ⟨rfl | rfl, hk⟩⟩ := hl
      · rw [e1, e_bs]
        exact ⟨true, rfl, ⟨fun _ => uniq.mpr hk, fun _ => rfl⟩⟩
      · rw [e1, e_bs]
        exact ⟨false, rfl, ⟨fun z => absurd z (by decide), fun z => absurd (uniq.mp z) hk⟩⟩
      · rw [e1, e_bs]
        exact ⟨false, rfl, ⟨fun z => absurd z (by decide), fun z => absurd (uniq.mp z) hk⟩⟩
    · rintro m z ⟨i, hi, rfl, rfl, v1, v2⟩
      have hah : ah w i < 4 := by
        cases i with
        | zero => show 1 < 4; omega
        | succ i => exact dgt_lt
      have hdg := dgt_lt (w := w) (i := i)
      by_cases hi6 : i = 6
      · right
        subst hi6
        refine ⟨Sum.inr true, ?_, Or.inl ⟨rfl, h1, h6, hlt (fun p a b => v2 p b a), fun p hp => v1 p (by omega) hp⟩⟩
        show l_X11_areWeights_20 _ _ _ (i32 6) = _
        unfold l_X11_areWeights_20
        rw [if_pos (by decide)]
      · have hstart : ∀ {q}, ((if i32 n ≤ i32 i then (if i32 (dgt w i) ≤ 0 then (some (Sum.inl ())) else (some (Sum.inr (Sum.inr (Sum.inr false))))) else (if i32 (ah w i) ≤ i32 (dgt w i) then (some (Sum.inl ())) else (some (Sum.inr (Sum.inr (Sum.inl ()))))) : Option (Unit ⊕ ((Int32 × Int32) ⊕ (Unit ⊕ Bool)))).bind (Sum.elim (fun (z4 : Unit) => j_X11_areWeights_59 (i32 i) (i32 (dgt w i))) some)) = q → l_X11_areWeights_20 (i32 n) (i32 w) (i32 (ah w i)) (i32 i) = q := by
          intro q hq
          unfold l_X11_areWeights_20
          rw [i32_6, if_neg (i_nle (by omega) (by omega)), i_dgt (by omega) (by omega), e_bd]
          exact hq
        have j59 : j_X11_areWeights_59 (i32 i) (i32 (dgt w i)) = some (Sum.inl (i32 (ah w (i + 1)), i32 (i + 1))) := by
          unfold j_X11_areWeights_59
          rw [i32_1, i32_add]; rfl
        by_cases hin : n ≤ i
        · by_cases hd0 : dgt w i = 0
          · left
            refine ⟨(i32 (ah w (i + 1)), i32 (i + 1)), 6 - (i + 1), by omega, ?_, i + 1, by omega, rfl, rfl, fun p hp hpn => v1 p (by omega) hpn, fun p hp hpn => ?_⟩
            · show l_X11_areWeights_20 _ _ _ (i32 i) = _
              refine hstart ?_
              rw [if_pos (i_le hin (by omega)), if_pos (show i32 (dgt w i) ≤ 0 from i_le (b := 0) (by omega) (by omega)), e_bs]
              exact j59
            · by_cases h5 : p = i
              · rw [h5]; exact hd0
              · exact v2 p (by omega) hpn
          · right
            refine ⟨Sum.inr false, ?_, Or.inr ⟨Or.inl rfl, fun z => hd0 (dgt_hi z.2.2.1 hin)⟩⟩
            show l_X11_areWeights_20 _ _ _ (i32 i) = _
            refine hstart ?_
            rw [if_pos (i_le hin (by omega)), if_neg (show ¬ i32 (dgt w i) ≤ 0 from i_nle (b := 0) (by omega) (by omega)), e_bs]
            rfl
        · by_cases hq : ah w i ≤ dgt w i
          · left
            refine ⟨(i32 (ah w (i + 1)), i32 (i + 1)), 6 - (i + 1), by omega, ?_, i + 1, by omega, rfl, rfl, fun p hp hpn => ?_, fun p hp hpn => v2 p (by omega) hpn⟩
            · show l_X11_areWeights_20 _ _ _ (i32 i) = _
              refine hstart ?_
              rw [if_neg (i_nle (by omega) (by omega)), if_pos (i_le hq (by omega)), e_bs]
              exact j59
            · by_cases h5 : p = i
              · rw [h5]; exact hq
              · exact v1 p (by omega) hpn
          · right
            refine ⟨Sum.inl (), ?_, Or.inr ⟨Or.inr rfl, fun z => hq (z.2.2.2 i (by omega))⟩⟩
            show l_X11_areWeights_20 _ _ _ (i32 i) = _
            refine hstart ?_
            rw [if_neg (i_nle (by omega) (by omega)), if_neg (i_nle (by omega) (by omega)), e_bs]
            rfl
  · rw [decide_eq_false hy, if_neg (by decide)]
    refine ⟨false, rfl, ⟨fun z => absurd z (by decide), ?_⟩⟩
    rintro ⟨w, rfl, ok⟩
    exfalso
    have h4 : 4 ^ n ≤ 4 ^ 6 := Nat.pow_le_pow_right (by omega) h6
    have a1 := ok.2.2.1
    rw [i32_toInt (by omega)] at hy
    omega
theorem ok_0 : Ok_0 II := by
  intro c σ x y hc ⟨S, ok, h, hr⟩
  have f0 : SR σ (wI σ 306 0 0) := SR.fld (by omega)
  obtain ⟨b, e1, hb⟩ := c_areWeights (σ := σ) (x := x) (y := y)
  unfold f_X10_group
  rw [e1, e_bs]
  have e2 := fun τ : Mem => r_in (σ := τ) (x := x) (l := 1) (u := 6) ⟨by omega, by omega⟩ ⟨by omega, by omega⟩
  cases b with
  | true =>
    rw [if_pos rfl]
    obtain ⟨n, w, rfl, rfl, hok⟩ := hb.mp rfl
    have h4 : 4 ^ n ≤ 4 ^ 6 := Nat.pow_le_pow_right (by omega) hok.2.1
    have hw := hok.2.2.1
    have hn1 := hok.1
    have hn6 := hok.2.1
    obtain ⟨σ2, e3, a2, a3, a4, a5, a6⟩ := c_beginGroup h ok
    obtain ⟨σ3, e4, f4, m4⟩ := c_reset (σ := σ2) (n := n) (w := w) hok.2.1 (by omega)
    obtain ⟨σ4, e5, i5, hi5⟩ := c_newGroup (S := (aX S, aT S, psh (aX S) (aA S), aI S, aP S, aF S)) hc ok.1.1 (GW_ok hok) a2 a3 a5 f4 m4
    rw [e3, e_bs, e4, e_bs, e5, e_bs]
    -- the reference
    have hr4 := (hr.hi (a6.trans hi5)).told
    have f4' : LO σ4 (wI σ4 306 0 0) := LO.row (by omega)
    obtain ⟨c2, e6, hb2⟩ := r_areWeights (σ := wI σ4 306 0 0) (w := w) hok.1 hok.2.1 (y := i32 w)
    have hc2 : c2 = true := hb2.mpr ⟨w, rfl, hok⟩
    subst hc2
    obtain ⟨σ7, e7, r7, l7, _, _⟩ := r_keep2 hr4 ok
    obtain ⟨σ8, e8, f8, z8, n8⟩ := r_clears (σ := σ7) (n := n)
    have hl := loop_inv (body := fun (z7 : (Mem × Int32)) => l_X11_group_40 (i32 n) (i32 w) z7.1 z7.2) (fun m z => ∃ i τ, i ≤ n ∧ m = n - i ∧ z = (τ, i32 i) ∧ FG σ8 τ ∧ τ.1 306 9 = 0 ∧ τ.1 307 0 = i32 n ∧ (∀ p, p < i → τ.1 307 (1 + p) = i32 (dgt w p)) ∧ ∀ k, 1 + i ≤ k → k < 283 → τ.1 307 k = 0) (fun r => ∃ τ, r = (true, τ) ∧ FG σ8 τ ∧ τ.1 306 9 = 0 ∧ RB τ 307 0 (GW n w, fun _ _ => 0)) ?_ n (σ8, 0) ⟨0, σ8, by omega, rfl, rfl, FG.refl, n8, z8.1, fun p hp => absurd hp (Nat.not_lt_zero _), fun k h1 h2 => z8.2 k (by omega) h2⟩
    · obtain ⟨r, e9, τ, rfl, f9, n9, rb9⟩ := hl
      refine ⟨true, σ4, τ, rfl, ?_, fin_new ok (GW_ok hok) i5 (r7.newX (f8.trans f9) n9 rb9) (f4'.trans (l7.trans (f8.trans f9).lo))⟩
      unfold f_X11_group
      rw [e_pF, show (1 : Int64) = oi 1 from rfl, show (6 : Int64) = oi 6 from rfl, e2, e_bs, i32_toInt (by omega), decide_eq_true (by omega), if_pos rfl, e6, e_bs, if_pos rfl, e7, e_bs, e8, e_bs, e9]
    · rintro m z ⟨i, τ, hi, rfl, rfl, f9, n9, z0, z1, z2⟩
      by_cases hin : i = n
      · right
        subst hin
        refine ⟨_, ?_, τ, rfl, f9, n9, RB.weights z0 (fun p hp => ?_) (fun k h1 h2 => z2 k (by omega) h2)⟩
        · show l_X11_group_40 _ _ τ (i32 i) = _
          unfold l_X11_group_40
          rw [if_pos (i_le (Nat.le_refl _) (by omega))]
        · by_cases hp2 : p < i
          · exact z1 p hp2
          · rw [z2 _ (by omega) (by omega), dgt_hi hw (by omega)]; rfl
      · left
        refine ⟨(wI τ 307 (1 + i) (i32 (dgt w i)), i32 (i + 1)), n - (i + 1), by omega, ?_, i + 1, _, by omega, rfl, rfl, f9.trans FG.row, by rw [wI_1, if_neg (by omega)]; exact n9, by rw [wI_1, if_neg (by omega)]; exact z0, fun p hp => ?_, fun k h1 h2 => ?_⟩
        · show l_X11_group_40 (i32 n) (i32 w) τ (i32 i) = _
          unfold l_X11_group_40
          rw [if_neg (i_nle (by omega) (by omega)), i_dgt (by omega) (by omega), i32_1, i32_add, e_pI ln_307 (by omega) (by omega), i32_add]
        · rw [wI_1]
          by_cases h5 : p = i
          · rw [if_pos ⟨rfl, by omega⟩, h5]
          · rw [if_neg (by omega)]; exact z1 p (by omega)
        · rw [wI_1, if_neg (by omega)]; exact z2 k (by omega) h2
  | false =>
    rw [if_neg (by decide)]
    have hno : ¬ ∃ n w, x = i32 n ∧ y = i32 w ∧ OKW n w := fun z => absurd (hb.mpr z) (by decide)
    refine ⟨false, σ, wI σ 306 0 0, rfl, ?_, fin_q ok h hr.told f0.lo⟩
    unfold f_X11_group
    rw [e_pF, show (1 : Int64) = oi 1 from rfl, show (6 : Int64) = oi 6 from rfl, e2, e_bs]
    by_cases hx : 1 ≤ x.toInt ∧ x.toInt ≤ 6
    · rw [decide_eq_true hx, if_pos rfl]
      have hxi := i32_of (x := x) (by omega)
      obtain ⟨c2, e6, hb2⟩ := r_areWeights (σ := wI σ 306 0 0) (n := x.toInt.toNat) (w := 0) (by omega) (by omega) (y := y)
      rw [← hxi] at e6
      have : c2 = false := by
        cases c2 with
        | false => rfl
        | true =>
          obtain ⟨w, hw, hk⟩ := hb2.mp rfl
          exact absurd ⟨_, w, hxi, hw, hk⟩ hno
      subst this
      rw [e6, e_bs, if_neg (by decide)]
    · rw [decide_eq_false hx, if_neg (by decide)]
theorem c_mayBe {a b d : Nat} {v : Int32} {G : GD} (hG : GOK G) (h : CG σ 2 G) (ha : a < 6) (hb : b < 6) (hd : d < 6) {j i k : Int32} (ht : isTl (gn G) j i k = true) (ej : j - 1 = i32 a) (ei : i - 1 = i32 b) (ek : k - 1 = i32 d) : f_X6_mayBe σ 2 (j - 1) (i - 1) (k - 1) v = some (decide (0 ≤ v.toInt ∧ v.toInt ≤ 3 ∧ (v.toInt = 0 ∨ gw G b + gw G a ≤ gw G d))) := by
  have hn := hG.2.1
  have hw : ∀ i, i < 6 → gw G i ≤ 3 := fun i hi => by
    by_cases h1 : i < gn G
    · exact (hG.2.2.1 i h1).2
    · rw [hG.2.2.2.2.1 i (by omega)]; omega
  unfold f_X6_mayBe
  rw [c_isTl h.1 hn, e_bs, ht, if_pos rfl]
  by_cases h1 : v < 0
  · have := (lt32 (k := 0) (by omega)).mp h1
    rw [if_pos h1, decide_eq_false (by omega)]
  · have h1' : ¬ v.toInt < 0 := fun z => h1 ((lt32 (k := 0) (by omega)).mpr z)
    rw [if_neg h1]
    by_cases h2 : v ≤ 3
    · have h2' := (le32 (k := 3) (by omega)).mp h2
      rw [if_pos h2]
      by_cases h3 : v = 0
      · subst h3
        rw [if_pos rfl, e_bs]
        have : (0 : Int32).toInt = 0 := by decide
        rw [decide_eq_true (by omega)]; rfl
      · have h3' : v.toInt ≠ 0 := fun z => h3 (by rw [← Int32.toInt_inj, z]; decide)
        have w1 := hw a ha
        have w2 := hw b hb
        have w3 := hw d hd
        rw [if_neg h3, ej, ei, ek, RR2_2.1, e_gI ln_3 hd (by omega), h.2.1 d hd, e_gI ln_3 hb (by omega), h.2.1 b hb, e_gI ln_3 ha (by omega), h.2.1 a ha, i32_add]
        by_cases h4 : gw G d < gw G b + gw G a
        · rw [if_pos (i_lt h4 (by omega)), e_bs, decide_eq_false (by omega)]; rfl
        · rw [if_neg (i_nlt (by omega) (by omega)), e_bs, decide_eq_true (by omega)]; rfl
    · have h2' : ¬ v.toInt ≤ 3 := fun z => h2 ((le32 (k := 3) (by omega)).mpr z)
      rw [if_neg h2, decide_eq_false (by omega)]
theorem ok_1 : Ok_1 II := by
  intro c σ j i k v hc ⟨S, ok, h, hr⟩
  have f0 : SR σ (wI σ 306 0 0) := SR.fld (by omega)
  have hG : GOK (aG S) := ok.1.1
  have hn : gn (aG S) ≤ 6 := hG.2.1
  have ev := fun τ : Mem => r_in (σ := τ) (x := v) (l := 0) (u := 3) ⟨by omega, by omega⟩ ⟨by omega, by omega⟩
  unfold f_X10_tail
  cases ht : isTl (gn (aG S)) j i k with
  | false =>
    have e1 : f_X6_mayBe σ 2 (j - 1) (i - 1) (k - 1) v = some false := by
      unfold f_X6_mayBe
      rw [c_isTl h.1.1.1 hn, e_bs, ht, if_neg (by decide)]
    rw [e1, e_bs, if_neg (by decide)]
    refine ⟨false, σ, wI σ 306 0 0, rfl, ?_, fin_q ok h hr.told f0.lo⟩
    unfold f_X11_tail_
    rw [e_pF, r_isTl hr.told.1.mg hn, e_bs, ht, if_neg (by decide)]
  | true =>
    obtain ⟨a, b, d, hab, had, hdn, ea, eb, ed⟩ := isTl_idx ht
    rw [c_mayBe hG h.1.1 (by omega) (by omega) (by omega) ht ea eb ed, e_bs]
    by_cases hok : 0 ≤ v.toInt ∧ v.toInt ≤ 3 ∧ (v.toInt = 0 ∨ gw (aG S) b + gw (aG S) a ≤ gw (aG S) d)
    · rw [decide_eq_true hok, if_pos rfl, ea, eb, ed]
      have hvi := i32_of hok.1
      have hv3 : v.toInt.toNat ≤ 3 := by omega
      have hvw : v.toInt.toNat = 0 ∨ gw (aG S) b + gw (aG S) a ≤ gw (aG S) d := by omega
      have hG' := upT_ok hG (v := v.toInt.toNat) hv3 ⟨hab, had, hdn⟩ hvw
      obtain ⟨σ2, e3, a2, a3, a4, a5, a6⟩ := c_beginGroup h ok
      obtain ⟨σ3, e4, f4, m4⟩ := c_write (σ := σ2) (v := v.toInt.toNat) hn a4 hab had hdn
      rw [← hvi] at e4
      obtain ⟨σ4, e5, i5, hi5⟩ := c_newGroup (S := (aX S, aT S, psh (aX S) (aA S), aI S, aP S, aF S)) hc ok.1.1 hG' a2 a3 a5 f4 m4
      rw [e3, e_bs, e4, e_bs, e5, e_bs]
      have hr4 := (hr.hi (a6.trans hi5)).told
      have f4' : LO σ4 (wI σ4 306 0 0) := LO.row (by omega)
      obtain ⟨σ7, e7, r7, l7, _, _⟩ := r_keep2 hr4 ok
      obtain ⟨σ8, e8, f8, rb8⟩ := r_onesAll (σ := σ7) (G := aG S) (R := aR S) r7.1
      obtain ⟨σ9, e9, f9, rb9, n9⟩ := r_putsTail (σ := σ8) (j := a) (i := b) (k := d) (v := v.toInt.toNat) rb8 (by omega) (by omega) (by omega)
      rw [← hvi] at e9
      refine ⟨true, σ4, σ9, rfl, ?_, fin_new ok hG' i5 (r7.newX (f8.trans f9) n9 rb9) (f4'.trans (l7.trans (f8.trans f9).lo))⟩
      unfold f_X11_tail_
      have hcond : (if v ≤ 0 then (some (Sum.inl ())) else ((f_X11_weight (wI σ4 306 0 0) (k - 1)).bind (fun (v7 : Int32) => (f_X11_weight (wI σ4 306 0 0) (i - 1)).bind (fun (v8 : Int32) => (f_X11_weight (wI σ4 306 0 0) (j - 1)).bind (fun (v9 : Int32) => if (v8 + v9) ≤ v7 then (some (Sum.inl ())) else (some (Sum.inr (false, wI σ4 306 0 0))))))) : Option (Unit ⊕ (Bool × Mem))) = some (Sum.inl ()) := by
        by_cases h3 : v ≤ 0
        · rw [if_pos h3]
        · have h3' : ¬ v.toInt ≤ 0 := fun z => h3 ((le32 (k := 0) (by omega)).mpr z)
          have hg := hG.2.2.1 d hdn
          have hM : MG (wI σ4 306 0 0) (aG S) := hr4.1.mg
          rw [if_neg h3, ea, eb, ed, e_weight hM (by omega), e_bs, e_weight hM (by omega), e_bs, e_weight hM (by omega), e_bs, i32_add, if_pos (i_le (by omega) (by omega))]
      rw [e_pF, r_isTl hr4.1.mg hn, e_bs, ht, if_pos rfl, show (0 : Int64) = oi 0 from rfl, show (3 : Int64) = oi 3 from rfl, ev, e_bs, decide_eq_true ⟨hok.1, hok.2.1⟩, if_pos rfl, hcond, e_bs]
      show j_X11_tail__61 j i k v (wI σ4 306 0 0) = _
      unfold j_X11_tail__61
      rw [e7, e_bs, e8, e_bs, ea, eb, ed, e9, e_bs]
    · rw [decide_eq_false hok, if_neg (by decide)]
      refine ⟨false, σ, wI σ 306 0 0, rfl, ?_, fin_q ok h hr.told f0.lo⟩
      unfold f_X11_tail_
      rw [e_pF, r_isTl hr.told.1.mg hn, e_bs, ht, if_pos rfl, show (0 : Int64) = oi 0 from rfl, show (3 : Int64) = oi 3 from rfl, ev, e_bs]
      by_cases h3 : 0 ≤ v.toInt ∧ v.toInt ≤ 3
      · have hg := hG.2.2.1 d hdn
        have ha := hG.2.2.1 a (by omega)
        have hb := hG.2.2.1 b (by omega)
        have h4 : ¬ v ≤ 0 := fun z => by
          have := (le32 (k := 0) (by omega)).mp z
          omega
        have hM : MG (wI σ 306 0 0) (aG S) := hr.told.1.mg
        rw [decide_eq_true h3, if_pos rfl, if_neg h4, ea, eb, ed, e_weight hM (by omega), e_bs, e_weight hM (by omega), e_bs, e_weight hM (by omega), e_bs, i32_add, if_neg (i_nle (by omega) (by omega)), e_bs]
        rfl
      · rw [decide_eq_false h3, if_neg (by decide)]
end GRP
end
section
/-! kinds -/
section KND
variable {σ : Mem} {G : GD}
theorem e_gT {α : Type} {k i n : Nat} {f : Int32 → Option α} (hn : tabL k = n) (h : i < n) (h2 : n < 2 ^ 31) : gT k (i32 i) f = f (tab k i) := by
  unfold gT
  rw [hn, if_pos (i32_inb h h2), i32_cl (by omega)]
/-- the tails of the kinds: kind, j, i, k -/
def KT : List (Nat × Nat × Nat × Nat) := [(0, 1, 0, 2), (1, 1, 0, 2), (1, 2, 0, 3), (1, 2, 1, 4), (2, 2, 0, 3), (2, 2, 1, 4), (2, 3, 1, 5), (2, 4, 0, 5)]
def kn (κ : Nat) : Nat := [3, 5, 6, 6].getD κ 0
def kw (κ : Nat) : Nat := [37, 997, 3733, 1365].getD κ 0
def kf (κ : Nat) : Nat → GD
  | 0 => GW (kn κ) (kw κ)
  | q + 1 => if (KT.getD q (9, 0, 0, 0)).1 = κ then upT (kf κ q) (KT.getD q (9, 0, 0, 0)).2.1 (KT.getD q (9, 0, 0, 0)).2.2.1 (KT.getD q (9, 0, 0, 0)).2.2.2 1 else kf κ q
theorem kf_g (κ : Nat) : ∀ q, gn (kf κ q) = kn κ ∧ gw (kf κ q) = fun i => dgt (kw κ) i := by
  intro q
  induction q with
  | zero => exact ⟨rfl, rfl⟩
  | succ q ih =>
    show gn (if _ then _ else _) = _ ∧ gw (if _ then _ else _) = _
    split
    · exact ih
    · exact ih
theorem kt_ok {κ q : Nat} (hκ : κ < 4) (hq : q < 8) (h : (KT.getD q (9, 0, 0, 0)).1 = κ) : (KT.getD q (9, 0, 0, 0)).2.2.1 < (KT.getD q (9, 0, 0, 0)).2.1 ∧ (KT.getD q (9, 0, 0, 0)).2.1 < (KT.getD q (9, 0, 0, 0)).2.2.2 ∧ (KT.getD q (9, 0, 0, 0)).2.2.2 < kn κ ∧ dgt (kw κ) (KT.getD q (9, 0, 0, 0)).2.2.1 + dgt (kw κ) (KT.getD q (9, 0, 0, 0)).2.1 ≤ dgt (kw κ) (KT.getD q (9, 0, 0, 0)).2.2.2 := by
  have key : (List.range 4).all (fun κ => (List.range 8).all (fun q => !(decide ((KT.getD q (9, 0, 0, 0)).1 = κ)) || decide ((KT.getD q (9, 0, 0, 0)).2.2.1 < (KT.getD q (9, 0, 0, 0)).2.1 ∧ (KT.getD q (9, 0, 0, 0)).2.1 < (KT.getD q (9, 0, 0, 0)).2.2.2 ∧ (KT.getD q (9, 0, 0, 0)).2.2.2 < kn κ ∧ dgt (kw κ) (KT.getD q (9, 0, 0, 0)).2.2.1 + dgt (kw κ) (KT.getD q (9, 0, 0, 0)).2.1 ≤ dgt (kw κ) (KT.getD q (9, 0, 0, 0)).2.2.2))) = true := by decide +kernel
  have h1 := List.all_eq_true.mp key κ (List.mem_range.mpr hκ)
  have h2 := List.all_eq_true.mp h1 q (List.mem_range.mpr hq)
  rw [decide_eq_true h] at h2
  simpa using h2
theorem kn_ok {κ : Nat} (hκ : κ < 4) : OKW (kn κ) (kw κ) := by
  have key : (List.range 4).all (fun κ => decide (1 ≤ kn κ ∧ kn κ ≤ 6 ∧ kw κ < 4 ^ kn κ) && (List.range (kn κ)).all (fun i => decide (ah (kw κ) i ≤ dgt (kw κ) i))) = true := by decide +kernel
  have h1 := List.all_eq_true.mp key κ (List.mem_range.mpr hκ)
  rw [Bool.and_eq_true] at h1
  have h2 := of_decide_eq_true h1.1
  exact ⟨h2.1, h2.2.1, h2.2.2, fun i hi => of_decide_eq_true (List.all_eq_true.mp h1.2 i (List.mem_range.mpr hi))⟩
theorem kf_ok {κ : Nat} (hκ : κ < 4) : ∀ q, q ≤ 8 → GOK (kf κ q) := by
  intro q
  induction q with
  | zero => intro _; exact GW_ok (kn_ok hκ)
  | succ q ih =>
    intro hq
    have h1 := ih (by omega)
    have hg := kf_g κ q
    show GOK (if (KT.getD q (9, 0, 0, 0)).1 = κ then _ else _)
    by_cases h : (KT.getD q (9, 0, 0, 0)).1 = κ
    · rw [if_pos h]
      have h2 := kt_ok hκ (by omega) h
      exact upT_ok h1 (by omega) ⟨h2.1, h2.2.1, by rw [hg.1]; exact h2.2.2.1⟩ (Or.inr (by rw [hg.2]; exact h2.2.2.2))
    · rw [if_neg h]; exact h1
theorem tabL_2 : tabL 2 = 32 := by decide +kernel
theorem tabL_0 : tabL 0 = 4 := by decide +kernel
theorem tabL_1 : tabL 1 = 4 := by decide +kernel
theorem tab_k {κ : Nat} (h : κ < 4) : tab 0 κ = i32 (kn κ) ∧ tab 1 κ = i32 (kw κ) := by
  have key : (List.range 4).all (fun κ => decide (tab 0 κ = i32 (kn κ)) && decide (tab 1 κ = i32 (kw κ))) = true := by decide +kernel
  have h1 := List.all_eq_true.mp key κ (List.mem_range.mpr h)
  rw [Bool.and_eq_true] at h1
  exact ⟨of_decide_eq_true h1.1, of_decide_eq_true h1.2⟩
theorem tab_t {q : Nat} (h : q < 8) : tab 2 (4 * q) = i32 (KT.getD q (9, 0, 0, 0)).1 ∧ tab 2 (4 * q + 1) - 1 = i32 (KT.getD q (9, 0, 0, 0)).2.1 ∧ tab 2 (4 * q + 2) - 1 = i32 (KT.getD q (9, 0, 0, 0)).2.2.1 ∧ tab 2 (4 * q + 3) - 1 = i32 (KT.getD q (9, 0, 0, 0)).2.2.2 ∧ (KT.getD q (9, 0, 0, 0)).1 < 4 := by
  have key : (List.range 8).all (fun q => decide (tab 2 (4 * q) = i32 (KT.getD q (9, 0, 0, 0)).1) && (decide (tab 2 (4 * q + 1) - 1 = i32 (KT.getD q (9, 0, 0, 0)).2.1) && (decide (tab 2 (4 * q + 2) - 1 = i32 (KT.getD q (9, 0, 0, 0)).2.2.1) && (decide (tab 2 (4 * q + 3) - 1 = i32 (KT.getD q (9, 0, 0, 0)).2.2.2) && decide ((KT.getD q (9, 0, 0, 0)).1 < 4))))) = true := by decide +kernel
  have h1 := List.all_eq_true.mp key q (List.mem_range.mpr h)
  simp only [Bool.and_eq_true, decide_eq_true_eq] at h1
  exact h1
theorem FRu.refl : FRu σ σ := ⟨rfl, fun _ _ _ _ => rfl⟩
theorem FRu.trans {τ υ : Mem} (h : FRu σ τ) (k : FRu τ υ) : FRu σ υ := ⟨k.1.trans h.1, fun x h1 h2 h3 => (k.2 x h1 h2 h3).trans (h.2 x h1 h2 h3)⟩
theorem c_takeKind {κ : Nat} (hκ : κ < 4) : ∃ τ, f_X6_takeKind σ 2 (i32 κ) = some τ ∧ FRu σ τ ∧ CG τ 2 (kf κ 8) := by
  unfold f_X6_takeKind
  have hk := kn_ok hκ
  have h4 : 4 ^ kn κ ≤ 4 ^ 6 := Nat.pow_le_pow_right (by omega) hk.2.1
  have hw := hk.2.2.1
  obtain ⟨σ1, e1, f1, m1⟩ := c_reset (σ := σ) (n := kn κ) (w := kw κ) hk.2.1 (by omega)
  rw [if_neg (show ¬ i32 κ < 0 from i_nlt (b := 0) (by omega) (by omega)), tabL_0, if_neg (show ¬ Int32.ofNat 4 ≤ i32 κ from i_nle (b := κ) (a := 4) hκ (by omega)), tabL_1, if_pos (show i32 κ < Int32.ofNat 4 from i_lt (b := 4) hκ (by omega)), e_gT tabL_0 hκ (by omega), (tab_k hκ).1, e_gT tabL_1 hκ (by omega), (tab_k hκ).2, e1, e_bs]
  refine loop_inv (body := fun (z5 : (Mem × Int32)) => l_X6_takeKind_37 2 (i32 κ) z5.1 z5.2) (fun n z => ∃ q τ, q ≤ 8 ∧ n = 8 - q ∧ z = (τ, i32 (4 * q)) ∧ FRu σ τ ∧ CG τ 2 (kf κ q)) _ ?_ 8 (σ1, 0) ⟨0, σ1, by omega, rfl, rfl, f1, m1⟩
  rintro n z ⟨q, τ, hq, rfl, rfl, f, m⟩
  by_cases hq8 : q = 8
  · right
    subst hq8
    refine ⟨τ, ?_, f, m⟩
    show l_X6_takeKind_37 2 (i32 κ) τ (i32 32) = _
    unfold l_X6_takeKind_37
    rw [tabL_2, i32_3, i32_add, if_pos (show Int32.ofNat 32 ≤ i32 35 by decide)]
  · left
    have hq' : q < 8 := by omega
    obtain ⟨t0, t1, t2, t3, t4⟩ := tab_t hq'
    have step : ∀ υ, FRu σ υ → CG υ 2 (kf κ (q + 1)) → ∃ s' n', n' < 8 - q ∧ (some υ : Option Mem).bind (fun (z7 : Mem) => j_X6_takeKind_88 (i32 (4 * q)) z7) = some (Sum.inl s') ∧ ∃ q τ, q ≤ 8 ∧ n' = 8 - q ∧ s' = (τ, i32 (4 * q)) ∧ FRu σ τ ∧ CG τ 2 (kf κ q) := by
      intro υ f2 m2
      refine ⟨(υ, i32 (4 * (q + 1))), 8 - (q + 1), by omega, ?_, q + 1, υ, by omega, rfl, rfl, f2, m2⟩
      rw [e_bs]
      unfold j_X6_takeKind_88
      rw [i32_4, i32_add, show 4 * q + 4 = 4 * (q + 1) by omega]
    have hstart : ∀ {x : Option Mem} {y}, (if i32 (KT.getD q (9, 0, 0, 0)).1 = i32 κ then ((f_X6_write τ 2 (i32 (KT.getD q (9, 0, 0, 0)).2.1) (i32 (KT.getD q (9, 0, 0, 0)).2.2.1) (i32 (KT.getD q (9, 0, 0, 0)).2.2.2) 1).bind (fun (σ11 : Mem) => some σ11)) else (some τ) : Option Mem) = x → x.bind (fun (z7 : Mem) => j_X6_takeKind_88 (i32 (4 * q)) z7) = y → l_X6_takeKind_37 2 (i32 κ) τ (i32 (4 * q)) = y := by
      intro x y hx hy
      unfold l_X6_takeKind_37
      rw [tabL_2, i32_3, i32_add, if_neg (show ¬ Int32.ofNat 32 ≤ i32 (4 * q + 3) from i_nle (b := 4 * q + 3) (a := 32) (by omega) (by omega)), e_gT tabL_2 (by omega) (by omega), t0, i32_1, i32_add, e_gT tabL_2 (by omega) (by omega), i32_2, i32_add, e_gT tabL_2 (by omega) (by omega), e_gT tabL_2 (by omega) (by omega)]
      rw [← hx] at hy
      have a1 : tab 2 (4 * q + 1) - i32 1 = i32 (KT.getD q (9, 0, 0, 0)).2.1 := t1
      have a2 : tab 2 (4 * q + 2) - i32 1 = i32 (KT.getD q (9, 0, 0, 0)).2.2.1 := t2
      have a3 : tab 2 (4 * q + 3) - i32 1 = i32 (KT.getD q (9, 0, 0, 0)).2.2.2 := t3
      rw [a1, a2, a3]
      exact hy
    by_cases hc : (KT.getD q (9, 0, 0, 0)).1 = κ
    · have h2 := kt_ok hκ hq' hc
      have hg := kf_g κ q
      obtain ⟨υ, e2, f2, m2⟩ := c_write (σ := τ) (v := 1) (by rw [hg.1]; exact hk.2.1) m h2.1 h2.2.1 (by rw [hg.1]; exact h2.2.2.1)
      have m2' : CG υ 2 (kf κ (q + 1)) := by
        show CG υ 2 (if (KT.getD q (9, 0, 0, 0)).1 = κ then _ else _)
        rw [if_pos hc]; exact m2
      obtain ⟨s', n', b1, b2, b3⟩ := step υ (f.trans f2) m2'
      refine ⟨s', n', b1, ?_, b3⟩
      refine hstart ?_ b2
      have e2' : f_X6_write τ 2 (i32 (KT.getD q (9, 0, 0, 0)).2.1) (i32 (KT.getD q (9, 0, 0, 0)).2.2.1) (i32 (KT.getD q (9, 0, 0, 0)).2.2.2) 1 = some υ := e2
      rw [if_pos (by rw [hc]), e2', e_bs]
    · have m2' : CG τ 2 (kf κ (q + 1)) := by
        show CG τ 2 (if (KT.getD q (9, 0, 0, 0)).1 = κ then _ else _)
        rw [if_neg hc]; exact m
      obtain ⟨s', n', b1, b2, b3⟩ := step τ f m2'
      refine ⟨s', n', b1, ?_, b3⟩
      refine hstart ?_ b2
      rw [if_neg (i_ne hc (by omega) (by omega))]
/-! the reference's kinds -/
/-- weights, one by one, where all is cleared -/
theorem r_weighs {n w : Nat} (hz : RZ σ n) {x0 x1 x2 x3 x4 x5 : Int32} (h0 : x0 = i32 (dgt w 0)) (h1 : x1 = i32 (dgt w 1)) (h2 : x2 = i32 (dgt w 2)) (h3 : x3 = i32 (dgt w 3)) (h4 : x4 = i32 (dgt w 4)) (h5 : x5 = i32 (dgt w 5)) : ∃ τ, f_X11_weighs σ x0 x1 x2 x3 x4 x5 = some τ ∧ FG σ τ ∧ RB τ 307 0 (GW n w, fun _ _ => 0) ∧ τ.1 306 = σ.1 306 := by
  unfold f_X11_weighs
  rw [i32_1, i32_2, i32_3, i32_4, i32_5, i32_6, e_pI ln_307 (by omega) (by omega), e_pI ln_307 (by omega) (by omega), e_pI ln_307 (by omega) (by omega), e_pI ln_307 (by omega) (by omega), e_pI ln_307 (by omega) (by omega), e_pI ln_307 (by omega) (by omega)]
  refine ⟨_, rfl, ((((FG.row.trans FG.row).trans FG.row).trans FG.row).trans FG.row).trans FG.row, RB.weights ?_ (fun i hi => ?_) (fun k k1 k2 => ?_), ?_⟩
  · simp only [wI_1]
    exact hz.1
  · simp only [wI_1]
    rcases (show i = 0 ∨ i = 1 ∨ i = 2 ∨ i = 3 ∨ i = 4 ∨ i = 5 by omega) with q | q | q | q | q | q
    · subst q; exact h0
    · subst q; exact h1
    · subst q; exact h2
    · subst q; exact h3
    · subst q; exact h4
    · subst q; exact h5
  · simp only [wI_1]
    rw [if_neg (by omega), if_neg (by omega), if_neg (by omega), if_neg (by omega), if_neg (by omega), if_neg (by omega)]
    exact hz.2 k (by omega) k2
  · funext y
    simp only [wI_1]
    rw [if_neg (by omega), if_neg (by omega), if_neg (by omega), if_neg (by omega), if_neg (by omega), if_neg (by omega)]
theorem r_plain : ∃ τ, f_X11_plain σ = some τ ∧ FG σ τ ∧ τ.1 306 9 = 0 ∧ RB τ 307 0 (kf 0 8, fun _ _ => 0) := by
  unfold f_X11_plain
  obtain ⟨σ1, e1, f1, z1, n1⟩ := r_clears (σ := σ) (n := 3)
  have e1' : f_X11_clears σ 3 = some σ1 := e1
  rw [e1', e_bs, i32_1, i32_2, i32_3, e_pI ln_307 (by omega) (by omega), e_pI ln_307 (by omega) (by omega), e_pI ln_307 (by omega) (by omega)]
  have rb : RB (wI (wI (wI σ1 307 1 (i32 1)) 307 2 (i32 1)) 307 3 (i32 2)) 307 0 (GW 3 37, fun _ _ => 0) := by
    refine RB.weights ?_ (fun i hi => ?_) (fun k k1 k2 => ?_)
    · simp only [wI_1]
      exact z1.1
    · simp only [wI_1]
      rcases (show i = 0 ∨ i = 1 ∨ i = 2 ∨ i = 3 ∨ i = 4 ∨ i = 5 by omega) with q | q | q | q | q | q
      · subst q; rfl
      · subst q; rfl
      · subst q; rfl
      · subst q; exact (z1.2 4 (by omega) (by omega)).trans (by decide)
      · subst q; exact (z1.2 5 (by omega) (by omega)).trans (by decide)
      · subst q; exact (z1.2 6 (by omega) (by omega)).trans (by decide)
    · simp only [wI_1]
      rw [if_neg (by omega), if_neg (by omega), if_neg (by omega)]
      exact z1.2 k (by omega) k2
  have f2 := ((f1.trans FG.row).trans FG.row).trans (FG.row (σ := wI (wI σ1 307 1 (i32 1)) 307 2 (i32 1)) (y := 3) (v := i32 2))
  generalize wI (wI (wI σ1 307 1 (i32 1)) 307 2 (i32 1)) 307 3 (i32 2) = σ4 at rb f2
  obtain ⟨σ5, e5, f5, rb5, n5⟩ := r_putsTail (σ := σ4) (j := 1) (i := 0) (k := 2) (v := 1) rb (by omega) (by omega) (by omega)
  have e5' : f_X11_putsTail σ4 (i32 1) 0 (i32 2) (i32 1) = some σ5 := e5
  rw [e5', e_bs]
  exact ⟨σ5, rfl, f2.trans f5, n5, rb5⟩
theorem ok_2 : Ok_2 II := by
  intro c σ x hc ⟨S, ok, h, hr⟩
  have f0 : SR σ (wI σ 306 0 0) := SR.fld (by omega)
  have ex := fun τ : Mem => r_in (σ := τ) (x := x) (l := 0) (u := 3) ⟨by omega, by omega⟩ ⟨by omega, by omega⟩
  unfold f_X10_kind
  by_cases hx : 0 ≤ x.toInt ∧ x.toInt ≤ 3
  · have hxi := i32_of hx.1
    have hκ : x.toInt.toNat < 4 := by omega
    generalize x.toInt.toNat = κ at hxi hκ
    subst hxi
    rw [if_neg (show ¬ i32 κ < 0 from i_nlt (b := 0) (by omega) (by omega)), tabL_0, if_pos (show i32 κ < Int32.ofNat 4 from i_lt (b := 4) hκ (by omega))]
    obtain ⟨σ2, e3, a2, a3, a4, a5, a6⟩ := c_beginGroup h ok
    obtain ⟨σ3, e4, f4, m4⟩ := c_takeKind (σ := σ2) hκ
    obtain ⟨σ4, e5, i5, hi5⟩ := c_newGroup (S := (aX S, aT S, psh (aX S) (aA S), aI S, aP S, aF S)) hc ok.1.1 (kf_ok hκ 8 (by omega)) a2 a3 a5 f4 m4
    rw [e3, e_bs, e4, e_bs, e5, e_bs]
    have hr4 := (hr.hi (a6.trans hi5)).told
    have f4' : LO σ4 (wI σ4 306 0 0) := LO.row (by omega)
    obtain ⟨σ7, e7, r7, l7, _, _⟩ := r_keep2 hr4 ok
    have hmade : ∃ τ, (if i32 κ = 0 then ((f_X11_plain σ7).bind (fun (σ20 : Mem) => some (true, σ20))) else ((if i32 κ = 1 then (some 5) else (some 6) : Option Int32).bind (fun (z4 : Int32) => j_X11_kind_46 (i32 κ) σ7 z4)) : Option (Bool × Mem)) = some (true, τ) ∧ FG σ7 τ ∧ τ.1 306 9 = 0 ∧ RB τ 307 0 (kf κ 8, fun _ _ => 0) := by
      rcases (show κ = 0 ∨ κ = 1 ∨ κ = 2 ∨ κ = 3 by omega) with q | q | q | q
      · subst q
        obtain ⟨τ, e, f, n9, rb⟩ := r_plain (σ := σ7)
        rw [if_pos (by decide), e, e_bs]
        exact ⟨τ, rfl, f, n9, rb⟩
      · subst q
        obtain ⟨τ1, e1, f1, z1, n1⟩ := r_clears (σ := σ7) (n := 5)
        obtain ⟨τ2, e2, f2, rb2, s2⟩ := r_weighs (w := 997) z1 (x0 := 1) (x1 := 1) (x2 := 2) (x3 := 3) (x4 := 3) (x5 := 0) (by decide) (by decide) (by decide) (by decide) (by decide) (by decide)
        obtain ⟨τ3, e3, f3, rb3, n3⟩ := r_putsTail (σ := τ2) (j := 1) (i := 0) (k := 2) (v := 1) rb2 (by omega) (by omega) (by omega)
        obtain ⟨τ4, e4, f4, rb4, n4⟩ := r_putsTail (σ := τ3) (j := 2) (i := 0) (k := 3) (v := 1) rb3 (by omega) (by omega) (by omega)
        obtain ⟨τ5, e5, f5, rb5, n5⟩ := r_putsTail (σ := τ4) (j := 2) (i := 1) (k := 4) (v := 1) rb4 (by omega) (by omega) (by omega)
        have e1' : f_X11_clears σ7 5 = some τ1 := e1
        have e3' : f_X11_putsTail τ2 1 0 2 1 = some τ3 := e3
        have e4' : f_X11_putsTail τ3 2 0 3 1 = some τ4 := e4
        have e5' : f_X11_putsTail τ4 2 1 4 1 = some τ5 := e5
        rw [if_neg (by decide), if_pos (by decide), e_bs]
        unfold j_X11_kind_46
        rw [e1', e_bs, if_pos (by decide), e2, e_bs, e_bs]
        unfold j_X11_kind_64
        rw [if_neg (by decide), e_bs]
        unfold j_X11_kind_79
        rw [if_neg (by decide), e_bs]
        unfold j_X11_kind_94
        rw [if_pos (by decide), e3', e_bs, e4', e_bs, e5', e_bs, e_bs]
        unfold j_X11_kind_123
        rw [if_neg (by decide)]
        exact ⟨τ5, rfl, f1.trans (f2.trans (f3.trans (f4.trans f5))), n5, rb5⟩
      · subst q
        obtain ⟨τ1, e1, f1, z1, n1⟩ := r_clears (σ := σ7) (n := 6)
        obtain ⟨τ2, e2, f2, rb2, s2⟩ := r_weighs (w := 3733) z1 (x0 := 1) (x1 := 1) (x2 := 1) (x3 := 2) (x4 := 2) (x5 := 3) (by decide) (by decide) (by decide) (by decide) (by decide) (by decide)
        obtain ⟨τ3, e3, f3, rb3, n3⟩ := r_putsTail (σ := τ2) (j := 2) (i := 0) (k := 3) (v := 1) rb2 (by omega) (by omega) (by omega)
        obtain ⟨τ4, e4, f4, rb4, n4⟩ := r_putsTail (σ := τ3) (j := 2) (i := 1) (k := 4) (v := 1) rb3 (by omega) (by omega) (by omega)
        obtain ⟨τ5, e5, f5, rb5, n5⟩ := r_putsTail (σ := τ4) (j := 3) (i := 1) (k := 5) (v := 1) rb4 (by omega) (by omega) (by omega)
        obtain ⟨τ6, e6, f6, rb6, n6⟩ := r_putsTail (σ := τ5) (j := 4) (i := 0) (k := 5) (v := 1) rb5 (by omega) (by omega) (by omega)
        have e1' : f_X11_clears σ7 6 = some τ1 := e1
        have e3' : f_X11_putsTail τ2 2 0 3 1 = some τ3 := e3
        have e4' : f_X11_putsTail τ3 2 1 4 1 = some τ4 := e4
        have e5' : f_X11_putsTail τ4 3 1 5 1 = some τ5 := e5
        have e6' : f_X11_putsTail τ5 4 0 5 1 = some τ6 := e6
        rw [if_neg (by decide), if_neg (by decide), e_bs]
        unfold j_X11_kind_46
        rw [e1', e_bs, if_neg (by decide), e_bs]
        unfold j_X11_kind_64
        rw [if_pos (by decide), e2, e_bs, e_bs]
        unfold j_X11_kind_79
        rw [if_neg (by decide), e_bs]
        unfold j_X11_kind_94
        rw [if_neg (by decide), e_bs]
        unfold j_X11_kind_123
        rw [if_pos (by decide), e3', e_bs, e4', e_bs, e5', e_bs, e6', e_bs]
        exact ⟨τ6, rfl, f1.trans (f2.trans (f3.trans (f4.trans (f5.trans f6)))), n6, rb6⟩
      · subst q
        obtain ⟨τ1, e1, f1, z1, n1⟩ := r_clears (σ := σ7) (n := 6)
        obtain ⟨τ2, e2, f2, rb2, s2⟩ := r_weighs (w := 1365) z1 (x0 := 1) (x1 := 1) (x2 := 1) (x3 := 1) (x4 := 1) (x5 := 1) (by decide) (by decide) (by decide) (by decide) (by decide) (by decide)
        have e1' : f_X11_clears σ7 6 = some τ1 := e1
        rw [if_neg (by decide), if_neg (by decide), e_bs]
        unfold j_X11_kind_46
        rw [e1', e_bs, if_neg (by decide), e_bs]
        unfold j_X11_kind_64
        rw [if_neg (by decide), e_bs]
        unfold j_X11_kind_79
        rw [if_pos (by decide), e2, e_bs, e_bs]
        unfold j_X11_kind_94
        rw [if_neg (by decide), e_bs]
        unfold j_X11_kind_123
        rw [if_neg (by decide)]
        exact ⟨τ2, rfl, f1.trans f2, by rw [s2]; exact n1, rb2⟩
    obtain ⟨τ, e9, f9, n9, rb9⟩ := hmade
    refine ⟨true, σ4, τ, rfl, ?_, fin_new ok (kf_ok hκ 8 (by omega)) i5 (r7.newX f9 n9 rb9) (f4'.trans (l7.trans f9.lo))⟩
    unfold f_X11_kind
    rw [e_pF, show (0 : Int64) = oi 0 from rfl, show (3 : Int64) = oi 3 from rfl, ex, e_bs, decide_eq_true hx, if_pos rfl, e7, e_bs, e9]
  · refine ⟨false, σ, wI σ 306 0 0, ?_, ?_, fin_q ok h hr.told f0.lo⟩
    · by_cases h1 : x < 0
      · rw [if_pos h1]
      · have h1' : ¬ x.toInt < 0 := fun z => h1 ((lt32 (k := 0) (by omega)).mpr z)
        rw [if_neg h1, tabL_0, if_neg (fun z => by
          have := (lt32 (k := 4) (by omega)).mp z
          omega)]
    · unfold f_X11_kind
      rw [e_pF, show (0 : Int64) = oi 0 from rfl, show (3 : Int64) = oi 3 from rfl, ex, e_bs, decide_eq_false hx, if_neg (by decide)]
end KND
end
section
/-! acts undone, the image -/
section UND
variable {σ : Mem} {G : GD}
theorem IRef.fewer {S : AS} {X : GR} {L : List GR} (h : IRef S σ) (hA : aA S = X :: L) : IRef (aX S, aT S, L, aI S, aP S, aF S) (wI σ 306 3 (i32 L.length)) := by
  obtain ⟨h1, h2, h3, h4, h5, h6, h7, h8⟩ := h
  have g : ∀ x, x ≠ 306 → (wI σ 306 3 (i32 L.length)).1 x = σ.1 x := fun x hx => by funext y; rw [wI_1, if_neg (fun z => hx z.1)]
  have k : ∀ c, c ≠ 3 → (wI σ 306 3 (i32 L.length)).1 306 c = σ.1 306 c := fun c hc => by rw [wI_1, if_neg (fun z => hc z.2)]
  refine ⟨h1.eqs (g 307 (by omega)), ⟨by rw [k 4 (by omega)]; exact h2.1, by rw [k 27 (by omega)]; exact h2.2.1, fun i hi => by rw [g 318 (by omega)]; exact h2.2.2 i hi⟩, ⟨by rw [wI_1, if_pos ⟨rfl, rfl⟩], fun j Y hj => ?_⟩, ⟨by rw [k 37 (by omega)]; exact h4.1, fun y hy => by
    rw [g 323 (by omega)]
    exact ⟨(h4.2 y hy).1.eqs (g 323 (by omega)), (h4.2 y hy).2⟩⟩, ⟨by rw [k 18 (by omega)]; exact h5.1, fun p x hp => by rw [g 317 (by omega)]; exact h5.2 p x hp⟩, ⟨by rw [k 19 (by omega)]; exact h6.1, by rw [k 20 (by omega)]; exact h6.2⟩, h7.eqs (k 9 (by omega)) (k 10 (by omega)) (g 311 (by omega)) rfl, h8⟩
  have h9 := h3.2 (j + 1) Y (by rw [hA, List.getElem?_cons_succ]; exact hj)
  rw [hA, List.length_cons, show L.length + 1 - 1 - (j + 1) = L.length - 1 - j by omega] at h9
  exact h9.eqs (g 308 (by omega))
theorem i_less1 {n : Nat} (h : n < 2 ^ 31) : i32 (n + 1) - 1 = i32 n := i32_sub (a := n + 1) (b := 1) (by omega)
theorem ok_30 : Ok_30 II := by
  intro c σ hc ⟨S, ok, h, hr⟩
  have hact := h.2.2.1
  obtain ⟨hm, nxt, hn8, h5, hA⟩ := hact
  unfold f_X10_undo
  rw [e_gF, hm]
  cases hL : aA S with
  | nil =>
    rw [if_pos (show i32 ([] : List GR).length = 0 by decide)]
    have f0 : SR σ (wI σ 306 0 0) := SR.fld (by omega)
    refine ⟨-1, σ, wI σ 306 0 0, rfl, ?_, fin_q ok h hr.told f0.lo⟩
    unfold f_X11_undo
    have h3 : (wI σ 306 0 0).1 306 3 = i32 0 := by
      have := hr.told.2.2.1.1
      rw [hL] at this
      exact this
    rw [e_pF, e_gF, h3, if_pos (show i32 0 = 0 from rfl)]
  | cons X L =>
    have h8 : (aA S).length ≤ 8 := ok.2.2.1.1
    rw [hL, List.length_cons] at h8
    have hXok : ROK X := ok.2.2.1.2 X (by rw [hL]; exact List.mem_cons_self ..)
    have hX := hA 0 X (by rw [hL]; rfl)
    have hnx' : (nxt + 7) % 8 < 8 := by omega
    obtain ⟨r33, sa⟩ := SA_act hnx'
    have hcA : cA nxt 0 = 178 + 16 * ((nxt + 7) % 8) := by unfold cA; rw [Nat.sub_zero]
    rw [hcA] at hX
    have hnx : i32 nxt + 8 - 1 - (i32 nxt + 8 - 1) / 8 * 8 = i32 ((nxt + 7) % 8) := by
      have e8 : i32 nxt + 8 - 1 = i32 (nxt + 7) := by
        rw [i32_8, i32_add, i_less1 (n := nxt + 7) (by omega)]
      rw [e8, i_mod8 (by omega)]
    rw [List.length_cons, if_neg (i_ne0 (by omega) (by omega)), e_gF, hm, hL, List.length_cons, i_less1 (by omega), e_pF, e_gF, wI_1, if_neg (by omega), h5, e_nzI (by decide), hnx, e_pF, e_gF, wI_1, if_pos ⟨rfl, rfl⟩, e_gR ln_33 hnx' (by omega), r33]
    have g5 : ∀ x, x ≠ 0 → (wI (wI σ 0 4 (i32 L.length)) 0 5 (i32 ((nxt + 7) % 8))).1 x = σ.1 x := fun x hx => by funext y; rw [wI_1, if_neg (fun z => hx z.1), wI_1, if_neg (fun z => hx z.1)]
    have k5 : ∀ c, c ≠ 4 → c ≠ 5 → (wI (wI σ 0 4 (i32 L.length)) 0 5 (i32 ((nxt + 7) % 8))).1 0 c = σ.1 0 c := fun c c1 c2 => by rw [wI_1, if_neg (fun z => c2 z.2), wI_1, if_neg (fun z => c1 z.2)]
    have a4 : (wI (wI σ 0 4 (i32 L.length)) 0 5 (i32 ((nxt + 7) % 8))).1 0 4 = i32 L.length := by rw [wI_1, if_neg (by omega), wI_1, if_pos ⟨rfl, rfl⟩]
    have a5 : (wI (wI σ 0 4 (i32 L.length)) 0 5 (i32 ((nxt + 7) % 8))).1 0 5 = i32 ((nxt + 7) % 8) := by rw [wI_1, if_pos ⟨rfl, rfl⟩]
    have l5 : (wI (wI σ 0 4 (i32 L.length)) 0 5 (i32 ((nxt + 7) % 8))).2 = σ.2 := rfl
    generalize wI (wI σ 0 4 (i32 L.length)) 0 5 (i32 ((nxt + 7) % 8)) = σ5 at g5 k5 a4 a5 l5
    have hX5 : CB σ5 (178 + 16 * ((nxt + 7) % 8)) X := hX.eqs (fun x b1 _ => g5 x (by omega)) (fun x _ _ => by rw [l5])
    obtain ⟨σ8, e8, b8, f8⟩ := c_takeActed (σ := σ5) sa SA_1 (by omega) hX5
    have F8 : ∀ x, x ≠ 0 → x < 2 ∨ 15 < x → σ8.1 x = σ.1 x ∧ σ8.2 x = σ.2 x := fun x hx hx2 => ⟨by rw [(f8 x (by omega)).1, g5 x hx], by rw [(f8 x (by omega)).2, l5]⟩
    have F80 : σ8.1 0 = σ5.1 0 := (f8 0 (by omega)).1
    have hl8 : CLaw c σ8 (aG S) := h.law.eqs (fun c _ => by rw [(F8 40 (by omega) (by omega)).1]) (fun x hx => (F8 x (by omega) (by omega)).1) (fun x hx => (F8 x (by omega) (by omega)).2)
    obtain ⟨υ, e9, w9, l9⟩ := c_followed hc ok.1.1 hXok.1 hl8 b8.1
    have u0 : υ.1 0 = σ5.1 0 := by rw [(w9 0 (by omega)).1, F80]
    rw [e8, e_bs, e9, e_bs, e_gF, u0, a4]
    have hu : ∀ x, x ≠ 0 → x < 2 ∨ (15 < x ∧ x < 35) ∨ 71 < x → υ.1 x = σ.1 x ∧ υ.2 x = σ.2 x := fun x hx hx2 => ⟨by rw [(w9 x (by omega)).1, (F8 x hx (by omega)).1], by rw [(w9 x (by omega)).2, (F8 x hx (by omega)).2]⟩
    obtain ⟨q2, q3, q4, q5, q6⟩ := h.rest
    have hC : ICls (c + 1) (X, aT S, L, aI S, aP S, aF S) υ := by
      refine ICls.mk (b8.eqs (fun x b1 b2 => (w9 x (by omega)).1) (fun x b1 b2 => (w9 x (by omega)).2)) ⟨q2.eqs (hu 16 (by omega) (by omega)).1, ⟨by rw [u0]; exact a4, (nxt + 7) % 8, hnx', by rw [u0]; exact a5, fun j Y hj => ?_⟩, ⟨by rw [u0, k5 2 (by omega) (by omega)]; exact q4.1, fun y hy => ⟨(q4.2 y hy).1.eqs (fun x a b => (hu x (by omega) (by omega)).1) (fun x a b => (hu x (by omega) (by omega)).2), (q4.2 y hy).2.eqs (hu 32 (by omega) (by omega)).1⟩⟩, ⟨by rw [u0, k5 7 (by omega) (by omega)]; exact q5.1, fun p x hp => by rw [(hu 34 (by omega) (by omega)).1]; exact q5.2 p x hp⟩, by rw [(hu 144 (by omega) (by omega)).1]; exact q6.1, by rw [(hu 144 (by omega) (by omega)).1]; exact q6.2⟩ l9
      have hjl : j < L.length := (List.getElem?_eq_some_iff.mp hj).1
      have h9 := hA (j + 1) Y (by rw [hL, List.getElem?_cons_succ]; exact hj)
      have e10 : cA nxt (j + 1) = cA ((nxt + 7) % 8) j := by unfold cA; omega
      rw [e10] at h9
      have hb : 178 ≤ cA ((nxt + 7) % 8) j := by unfold cA; omega
      exact h9.eqs (fun x b1 b2 => (hu x (by omega) (by omega)).1) (fun x b1 b2 => (hu x (by omega) (by omega)).2)
    have hH : HI σ υ := fun x hx => hu x (by omega) (by omega)
    -- the reference
    have hr1 := (hr.hi hH).told
    have h3 : (wI υ 306 0 0).1 306 3 = i32 (L.length + 1) := by
      have := hr1.2.2.1.1
      rw [hL] at this
      exact this
    have hr4 := hr1.fewer hL
    have hRX : RB (wI υ 306 0 0) 308 (283 * L.length) X := by
      have := hr1.2.2.1.2 0 X (by rw [hL]; rfl)
      rwa [hL, List.length_cons, show L.length + 1 - 1 - 0 = L.length by omega] at this
    obtain ⟨σ6, e6, o6, v6, _⟩ := loop_copyI (σ := wI (wI υ 306 0 0) 306 3 (i32 L.length)) (body := fun (z9 : (Mem × Int32)) => l_X11_undo_26 z9.1 z9.2) (a := 308) (b := 307) (o := 283 * L.length) (p := 0) (N := 283) (by omega) (fun τ k hk o => by
      show l_X11_undo_26 τ (i32 k) = _
      unfold l_X11_undo_26
      rw [i32_283, if_neg (i_nle hk (by omega)), e_gF, o.2 306 (by omega), wI_1, if_pos ⟨rfl, rfl⟩, i32_mul, i32_add, Nat.mul_comm L.length 283, e_gI ln_308 (by omega) (by omega), e_pI ln_307 (by omega) (by omega), i32_1, i32_add, Nat.zero_add]) (fun τ o => by
      show l_X11_undo_26 τ (i32 283) = _
      unfold l_X11_undo_26
      rw [if_pos (by decide)])
    have f7 : FG (wI (wI υ 306 0 0) 306 3 (i32 L.length)) (wI σ6 306 9 0) := o6.fg.trans FG.nine
    have rb7 : RB (wI σ6 306 9 0) 307 0 X := by
      refine (RB.copied hRX (τ := σ6) (b := 307) (p := 0) (fun k hk => ?_)).eqs (by funext y; rw [wI_1, if_neg (by omega)])
      rw [v6 k hk, wI_1, if_neg (by omega)]
    have hr7 := hr4.newX f7 (by rw [wI_1, if_pos ⟨rfl, rfl⟩]) rb7
    refine ⟨i32 L.length, υ, wI σ6 306 9 0, rfl, ?_, (X, aT S, L, aI S, aP S, aF S), ⟨hXok, ok.2.1, ⟨?_, fun Y hY => ok.2.2.1.2 Y (by rw [hL]; exact List.mem_cons_of_mem _ hY)⟩, ok.2.2.2⟩, hC.lo (((LO.row (by omega)).trans (LO.row (by omega))).trans f7.lo), hr7⟩
    · unfold f_X11_undo
      rw [e_pF, e_gF, h3, if_neg (i_ne0 (by omega) (by omega)), e_gF, h3, i_less1 (by omega), e_pF, e6, e_bs]
      unfold j_X11_undo_60
      rw [e_pF, e_gF, wI_1, if_neg (by omega), o6.2 306 (by omega), wI_1, if_pos ⟨rfl, rfl⟩]
    · show L.length ≤ 8
      omega
/-- all of a state taken -/
theorem c_takeAllS {s t : Nat} {X : GR} {T : TD} (hs : SA s) (ht : SA t) (hne : s + 16 ≤ t ∨ t + 16 ≤ s) (h : CB σ s X) (hT : CTd σ (s + 15) T) (hT6 : T.2.1 ≤ 6) : ∃ τ, f_X8_takeAll σ t s = some τ ∧ CB τ t X ∧ CTd τ (t + 15) T ∧ FRg (t + 1) (t + 15) σ τ := by
  unfold f_X8_takeAll
  obtain ⟨σ1, e1, b1, f1⟩ := c_takeActed hs ht hne h
  have hT1 : CTd σ1 (s + 15) T := hT.eqs (f1 _ (by omega)).1
  rw [e1, e_bs, hs.2.2.1, ht.2.2.1, ht.2.2.2.2.2.1, e_cIn hs.2.2.2.2.2.1 ht.2.2.2.2.2.1 (by omega)]
  refine ⟨_, rfl, b1.eqs (fun x q1 q2 => by funext y; rw [cpI_get, if_neg (by omega)]) (fun x _ _ => rfl), ⟨?_, ?_, fun i hi => ?_⟩, fun x hx => ⟨?_, ?_⟩⟩
  · rw [cpI_get, if_pos ⟨rfl, by omega⟩]; exact hT1.1
  · rw [cpI_get, if_pos ⟨rfl, by omega⟩]; exact hT1.2.1
  · rw [cpI_get, if_pos ⟨rfl, by omega⟩]; exact hT1.2.2 i hi
  · have := (f1 x (by omega)).1
    rw [← this]
    funext y; rw [cpI_get, if_neg (by omega)]
  · exact (f1 x (by omega)).2
theorem ok_31 : Ok_31 II := by
  intro c σ tk hc ⟨S, ok, h, hr⟩
  obtain ⟨q2, q3, q4, q5, q6⟩ := h.rest
  have f0 : SR σ (wI σ 306 0 0) := SR.fld (by omega)
  unfold f_X10_image
  cases tk with
  | true =>
    rw [if_pos rfl]
    obtain ⟨σ5, e5, b5, t5, f5⟩ := c_takeAllS (σ := σ) SA_1 SA_17 (by omega) h.1 q2 ok.2.1
    rw [e5, e_bs, e_pF]
    have F : ∀ x, x ≠ 0 → x < 18 ∨ 32 < x → (wI σ5 0 2 1).1 x = σ.1 x ∧ (wI σ5 0 2 1).2 x = σ.2 x := fun x hx hx2 => ⟨by rw [← (f5 x (by omega)).1]; funext y; rw [wI_1, if_neg (fun z => hx z.1)], by rw [← (f5 x (by omega)).2]; rfl⟩
    have k : ∀ c, c ≠ 2 → (wI σ5 0 2 1).1 0 c = σ.1 0 c := fun c hc => by rw [wI_1, if_neg (fun z => hc z.2), (f5 0 (by omega)).1]
    have a2 : (wI σ5 0 2 1).1 0 2 = 1 := by rw [wI_1, if_pos ⟨rfl, rfl⟩]
    have i18 : ∀ x, 18 ≤ x → x ≤ 32 → (wI σ5 0 2 1).1 x = σ5.1 x := fun x h1 h2 => by funext y; rw [wI_1, if_neg (by omega)]
    have l18 : (wI σ5 0 2 1).2 = σ5.2 := rfl
    generalize wI σ5 0 2 1 = σ6 at F k a2 i18 l18
    have hC : ICls (c + 1) (aX S, aT S, aA S, some (aX S, aT S), aP S, aF S) σ6 := by
      refine ICls.up (ICls.mk (h.1.eqs (fun x b1 b2 => (F x (by omega) (by omega)).1) (fun x b1 b2 => (F x (by omega) (by omega)).2)) ⟨q2.eqs (F 16 (by omega) (by omega)).1, ?_, ⟨by rw [a2]; rfl, fun y hy => ?_⟩, ⟨by rw [k 7 (by omega)]; exact q5.1, fun p x hp => by rw [(F 34 (by omega) (by omega)).1]; exact q5.2 p x hp⟩, by rw [(F 144 (by omega) (by omega)).1]; exact q6.1, by rw [(F 144 (by omega) (by omega)).1]; exact q6.2⟩ (h.law.eqs (fun c _ => by rw [(F 40 (by omega) (by omega)).1]) (fun x hx => (F x (by omega) (by omega)).1) (fun x hx => (F x (by omega) (by omega)).2)))
      · obtain ⟨a1, nxt, b2, b3, b4⟩ := q3
        refine ⟨by rw [k 4 (by omega)]; exact a1, nxt, b2, by rw [k 5 (by omega)]; exact b3, fun j Y hj => (b4 j Y hj).eqs (fun x c1 c2 => ?_) (fun x c1 c2 => ?_)⟩
        · unfold cA at c1 c2
          exact (F x (by omega) (by omega)).1
        · unfold cA at c1 c2
          exact (F x (by omega) (by omega)).2
      · cases hy
        exact ⟨b5.eqs (fun x c1 c2 => i18 x (by omega) (by omega)) (fun x _ _ => by rw [l18]), t5.eqs (i18 32 (by omega) (by omega))⟩
    have hH : HI σ σ6 := fun x hx => F x (by omega) (by omega)
    have hr1 := (hr.hi hH).told
    have s2 : SR (wI σ6 306 0 0) (wI σ6 306 0 0) := SR.refl
    obtain ⟨τ3, e3, o3', v3, w3⟩ := loop_copyI (σ := wI (wI σ6 306 0 0) 306 37 1) (body := fun (z30 : (Mem × Int32)) => l_X11_image_29 z30.1 z30.2) (a := 307) (b := 323) (o := 0) (p := 0) (N := 283) (by omega) (fun τ k hk o => by
      show l_X11_image_29 τ (i32 k) = _
      unfold l_X11_image_29
      rw [i32_283, if_neg (i_nle hk (by omega)), e_gI ln_307 (by omega) (by omega), e_pI ln_323 (by omega) (by omega), i32_1, i32_add, Nat.zero_add]) (fun τ o => by
      show l_X11_image_29 τ (i32 283) = _
      unfold l_X11_image_29
      rw [if_pos (by decide)])
    obtain ⟨τ4, e4, o4, v4, w4⟩ := loop_copyI (σ := τ3) (body := fun (z26 : (Mem × Int32)) => l_X11_image_56 z26.1 z26.2) (a := 318) (b := 323) (o := 0) (p := 283) (N := 6) (by omega) (fun τ k hk o => by
      show l_X11_image_56 τ (i32 k) = _
      unfold l_X11_image_56
      rw [i32_6, if_neg (i_nle hk (by omega)), e_gI ln_318 (by omega) (by omega), i32_283, i32_add, e_pI ln_323 (by omega) (by omega), i32_1, i32_add, Nat.zero_add]) (fun τ o => by
      show l_X11_image_56 τ (i32 6) = _
      unfold l_X11_image_56
      rw [if_pos (by decide)])
    have O4 : OI 323 (wI (wI σ6 306 0 0) 306 37 1) τ4 := ⟨o4.1.trans o3'.1, fun x hx => (o4.2 x hx).trans (o3'.2 x hx)⟩
    have t306 : ∀ c, c ≠ 37 → τ4.1 306 c = (wI σ6 306 0 0).1 306 c := fun c hc => by rw [O4.2 306 (by omega), wI_1, if_neg (fun z => hc z.2)]
    have g : ∀ x, x ≠ 306 → x ≠ 323 → τ4.1 x = (wI σ6 306 0 0).1 x := fun x h1 h2 => by rw [O4.2 x h2]; funext y; rw [wI_1, if_neg (fun z => h1 z.1)]
    obtain ⟨r1, r2, r3, r4, r5, r6, r7, r8⟩ := hr1
    refine ⟨true, σ6, wI (wI τ4 323 289 (τ4.1 306 27)) 323 290 (τ4.1 306 4), rfl, ?_, (aX S, aT S, aA S, some (aX S, aT S), aP S, aF S), ⟨ok.1, ok.2.1, ok.2.2.1, fun Y hY => by cases hY; exact ⟨ok.1, ok.2.1⟩, ok.2.2.2.2⟩, hC.lo (fun x hx => ⟨?_, ?_⟩), ?_⟩
    · unfold f_X11_image
      rw [e_pF, if_pos rfl, e_bs]
      show j_X11_image_18 true (wI σ6 306 0 0) = _
      unfold j_X11_image_18
      rw [e_pF, if_pos rfl, e3, e_bs]
      unfold j_X11_image_54
      rw [e4, e_bs]
      unfold j_X11_image_84
      rw [e_gF, show (289 : Int32) = i32 289 from rfl, show (290 : Int32) = i32 290 from rfl, e_pI ln_323 (by omega) (by omega), e_gF, e_pI ln_323 (by omega) (by omega), wI_1, if_neg (by omega)]
    · funext y
      rw [wI_1, if_neg (by omega), wI_1, if_neg (by omega), g x (by omega) (by omega), wI_1, if_neg (by omega)]
    · rw [wI_2, wI_2, O4.1]
      rfl
    · have G9 : ∀ x, x ≠ 306 → x ≠ 323 → (wI (wI τ4 323 289 (τ4.1 306 27)) 323 290 (τ4.1 306 4)).1 x = (wI σ6 306 0 0).1 x := fun x h1 h2 => by
        rw [← g x h1 h2]; funext y; rw [wI_1, if_neg (fun z => h2 z.1), wI_1, if_neg (fun z => h2 z.1)]
      have K9 : ∀ c, c ≠ 37 → (wI (wI τ4 323 289 (τ4.1 306 27)) 323 290 (τ4.1 306 4)).1 306 c = (wI σ6 306 0 0).1 306 c := fun c hc => by
        rw [wI_1, if_neg (by omega), wI_1, if_neg (by omega), t306 c hc]
      have L9 : (wI (wI τ4 323 289 (τ4.1 306 27)) 323 290 (τ4.1 306 4)).2 = (wI σ6 306 0 0).2 := O4.1
      refine ⟨r1.eqs (G9 307 (by omega) (by omega)), ⟨by rw [K9 4 (by omega)]; exact r2.1, by rw [K9 27 (by omega)]; exact r2.2.1, fun i hi => by rw [G9 318 (by omega) (by omega)]; exact r2.2.2 i hi⟩, ⟨by rw [K9 3 (by omega)]; exact r3.1, fun j Y hj => (r3.2 j Y hj).eqs (G9 308 (by omega) (by omega))⟩, ⟨?_, fun y hy => ?_⟩, ⟨by rw [K9 18 (by omega)]; exact r5.1, fun p x hp => by rw [G9 317 (by omega) (by omega)]; exact r5.2 p x hp⟩, ⟨by rw [K9 19 (by omega)]; exact r6.1, by rw [K9 20 (by omega)]; exact r6.2⟩, r7.eqs (K9 9 (by omega)) (K9 10 (by omega)) (G9 311 (by omega) (by omega)) (by rw [L9]), fun m hm => by rw [L9]; exact r8 m hm⟩
      · rw [wI_1, if_neg (by omega), wI_1, if_neg (by omega), O4.2 306 (by omega), wI_1, if_pos ⟨rfl, rfl⟩]; rfl
      · cases hy
        refine ⟨r1.copied (fun k hk => ?_), ?_, ?_, fun i hi => ?_⟩
        · rw [wI_1, if_neg (by omega), wI_1, if_neg (by omega), w4 _ (by omega), v3 k hk, wI_1, if_neg (by omega)]
        · rw [wI_1, if_pos ⟨rfl, rfl⟩, t306 4 (by omega)]; exact r2.1
        · rw [wI_1, if_neg (by omega), wI_1, if_pos ⟨rfl, rfl⟩, t306 27 (by omega)]; exact r2.2.1
        · have hi6 : i < 6 := Nat.lt_of_lt_of_le hi ok.2.1
          rw [wI_1, if_neg (by omega), wI_1, if_neg (by omega), v4 i hi6, o3'.2 318 (by omega), wI_1, if_neg (by omega), Nat.zero_add]
          exact r2.2.2 i hi
  | false =>
    rw [if_neg (by decide), e_gZ q4.1]
    cases hI : aI S with
    | none =>
      rw [show (none : Option (GR × TD)).isSome = false from rfl, if_neg (by decide)]
      refine ⟨false, σ, wI σ 306 0 0, rfl, ?_, fin_q ok h hr.told f0.lo⟩
      unfold f_X11_image
      have hz : (wI σ 306 0 0).1 306 37 = b2i false := by
        have := hr.told.2.2.2.1.1
        rw [hI] at this
        exact this
      rw [e_pF, if_neg (by decide), e_gZ hz, if_neg (by decide), e_bs]
      rfl
    | some y =>
      rw [show (some y : Option (GR × TD)).isSome = true from rfl, if_pos rfl]
      obtain ⟨b17, t32⟩ := q4.2 y hI
      obtain ⟨hyok, hy6⟩ := ok.2.2.2.1 y hI
      obtain ⟨σ2, e2, b2, t2, f2⟩ := c_takeAllS (σ := σ) SA_17 SA_1 (by omega) b17 t32 hy6
      rw [e2, e_bs, e_pF]
      have F : ∀ x, x ≠ 0 → x < 2 ∨ 16 < x → (wI σ2 0 4 0).1 x = σ.1 x ∧ (wI σ2 0 4 0).2 x = σ.2 x := fun x hx hx2 => ⟨by rw [← (f2 x (by omega)).1]; funext z; rw [wI_1, if_neg (fun q => hx q.1)], by rw [← (f2 x (by omega)).2]; rfl⟩
      have k : ∀ c, c ≠ 4 → (wI σ2 0 4 0).1 0 c = σ.1 0 c := fun c hc => by rw [wI_1, if_neg (fun z => hc z.2), (f2 0 (by omega)).1]
      have a4 : (wI σ2 0 4 0).1 0 4 = 0 := by rw [wI_1, if_pos ⟨rfl, rfl⟩]
      have b3 : CB (wI σ2 0 4 0) 1 y.1 := b2.eqs (fun x c1 c2 => by funext z; rw [wI_1, if_neg (by omega)]) (fun x _ _ => rfl)
      have t3 : CTd (wI σ2 0 4 0) 16 y.2 := t2.eqs (by funext z; rw [wI_1, if_neg (by omega)])
      generalize wI σ2 0 4 0 = σ3 at F k a4 b3 t3
      have hl3 : CLaw c σ3 (aG S) := h.law.eqs (fun c _ => by rw [(F 40 (by omega) (by omega)).1]) (fun x hx => (F x (by omega) (by omega)).1) (fun x hx => (F x (by omega) (by omega)).2)
      obtain ⟨υ, e9, w9, l9⟩ := c_followed hc ok.1.1 hyok.1 hl3 b3.1
      rw [e9, e_bs]
      have u0 : υ.1 0 = σ3.1 0 := (w9 0 (by omega)).1
      have hu : ∀ x, x ≠ 0 → x < 2 ∨ (16 < x ∧ x < 35) ∨ 71 < x → υ.1 x = σ.1 x ∧ υ.2 x = σ.2 x := fun x hx hx2 => ⟨by rw [(w9 x (by omega)).1, (F x hx (by omega)).1], by rw [(w9 x (by omega)).2, (F x hx (by omega)).2]⟩
      have hC : ICls (c + 1) (y.1, y.2, [], aI S, aP S, aF S) υ := by
        refine ICls.mk (b3.eqs (fun x c1 c2 => (w9 x (by omega)).1) (fun x c1 c2 => (w9 x (by omega)).2)) ⟨t3.eqs (w9 16 (by omega)).1, ?_, ⟨by rw [u0, k 2 (by omega)]; exact q4.1, fun y hy => ⟨(q4.2 y hy).1.eqs (fun x a b => (hu x (by omega) (by omega)).1) (fun x a b => (hu x (by omega) (by omega)).2), (q4.2 y hy).2.eqs (hu 32 (by omega) (by omega)).1⟩⟩, ⟨by rw [u0, k 7 (by omega)]; exact q5.1, fun p x hp => by rw [(hu 34 (by omega) (by omega)).1]; exact q5.2 p x hp⟩, by rw [(hu 144 (by omega) (by omega)).1]; exact q6.1, by rw [(hu 144 (by omega) (by omega)).1]; exact q6.2⟩ l9
        obtain ⟨a1, nxt, c2, c3, c4⟩ := q3
        exact ⟨by rw [u0, a4]; rfl, nxt, c2, by rw [u0, k 5 (by omega)]; exact c3, fun j Y (hj : ([] : List GR)[j]? = some Y) => by simp at hj⟩
      have hH : HI σ υ := fun x hx => hu x (by omega) (by omega)
      have hr1 := (hr.hi hH).told
      obtain ⟨r1, r2, r3, r4, r5, r6, r7, r8⟩ := hr1
      obtain ⟨ri1, ri2, ri3, ri4⟩ := r4.2 y hI
      obtain ⟨τ3, e3, o3', v3, w3⟩ := loop_copyI (σ := wI (wI υ 306 0 0) 306 37 1) (body := fun (z16 : (Mem × Int32)) => l_X11_image_112 z16.1 z16.2) (a := 323) (b := 307) (o := 0) (p := 0) (N := 283) (by omega) (fun τ k hk o => by
        show l_X11_image_112 τ (i32 k) = _
        unfold l_X11_image_112
        rw [i32_283, if_neg (i_nle hk (by omega)), e_gI ln_323 (by omega) (by omega), e_pI ln_307 (by omega) (by omega), i32_1, i32_add, Nat.zero_add]) (fun τ o => by
        show l_X11_image_112 τ (i32 283) = _
        unfold l_X11_image_112
        rw [if_pos (by decide)])
      obtain ⟨τ4, e4, o4, v4, w4⟩ := loop_copyI (σ := τ3) (body := fun (z12 : (Mem × Int32)) => l_X11_image_139 z12.1 z12.2) (a := 323) (b := 318) (o := 283) (p := 0) (N := 6) (by omega) (fun τ k hk o => by
        show l_X11_image_139 τ (i32 k) = _
        unfold l_X11_image_139
        rw [i32_6, if_neg (i_nle hk (by omega)), i32_283, i32_add, e_gI ln_323 (by omega) (by omega), e_pI ln_318 (by omega) (by omega), i32_1, i32_add, Nat.zero_add]) (fun τ o => by
        show l_X11_image_139 τ (i32 6) = _
        unfold l_X11_image_139
        rw [if_pos (by decide)])
      have g4 : ∀ x, x ≠ 306 → x ≠ 307 → x ≠ 318 → τ4.1 x = (wI υ 306 0 0).1 x := fun x h1 h2 h3 => by rw [o4.2 x h3, o3'.2 x h2]; funext z; rw [wI_1, if_neg (fun q => h1 q.1)]
      have k4 : ∀ c, c ≠ 37 → τ4.1 306 c = (wI υ 306 0 0).1 306 c := fun c hc => by rw [o4.2 306 (by omega), o3'.2 306 (by omega), wI_1, if_neg (fun z => hc z.2)]
      have k37 : τ4.1 306 37 = 1 := by rw [o4.2 306 (by omega), o3'.2 306 (by omega), wI_1, if_pos ⟨rfl, rfl⟩]
      have l4 : τ4.2 = (wI υ 306 0 0).2 := o4.1.trans o3'.1
      have e323 : τ4.1 323 = (wI υ 306 0 0).1 323 := g4 323 (by omega) (by omega) (by omega)
      generalize hτ9 : wI (wI (wI (wI τ4 306 27 (τ4.1 323 289)) 306 4 (τ4.1 323 290)) 306 3 0) 306 9 0 = τ9
      have g9 : ∀ x, x ≠ 306 → τ9.1 x = τ4.1 x := fun x hx => by
        rw [← hτ9]; funext z; rw [wI_1, if_neg (fun q => hx q.1), wI_1, if_neg (fun q => hx q.1), wI_1, if_neg (fun q => hx q.1), wI_1, if_neg (fun q => hx q.1)]
      have k9 : ∀ c, c ≠ 27 → c ≠ 4 → c ≠ 3 → c ≠ 9 → τ9.1 306 c = τ4.1 306 c := fun c h1 h2 h3 h4 => by
        rw [← hτ9, wI_1, if_neg (fun q => h4 q.2), wI_1, if_neg (fun q => h3 q.2), wI_1, if_neg (fun q => h2 q.2), wI_1, if_neg (fun q => h1 q.2)]
      have k27 : τ9.1 306 27 = τ4.1 323 289 := by rw [← hτ9, wI_1, if_neg (by omega), wI_1, if_neg (by omega), wI_1, if_neg (by omega), wI_1, if_pos ⟨rfl, rfl⟩]
      have k04 : τ9.1 306 4 = τ4.1 323 290 := by rw [← hτ9, wI_1, if_neg (by omega), wI_1, if_neg (by omega), wI_1, if_pos ⟨rfl, rfl⟩]
      have k03 : τ9.1 306 3 = 0 := by rw [← hτ9, wI_1, if_neg (by omega), wI_1, if_pos ⟨rfl, rfl⟩]
      have k09 : τ9.1 306 9 = 0 := by rw [← hτ9, wI_1, if_pos ⟨rfl, rfl⟩]
      have l9' : τ9.2 = (wI υ 306 0 0).2 := by rw [← hτ9]; exact l4
      refine ⟨true, υ, τ9, rfl, ?_, (y.1, y.2, [], aI S, aP S, aF S), ⟨hyok, hy6, ⟨Nat.zero_le _, fun Y hY => by cases hY⟩, ok.2.2.2⟩, hC.lo (fun x hx => ⟨?_, ?_⟩), ?_⟩
      · unfold f_X11_image
        have hz : (wI υ 306 0 0).1 306 37 = b2i true := by
          have := r4.1
          rw [hI] at this
          exact this
        rw [e_pF, if_neg (by decide), e_gZ hz, if_pos rfl, e_bs]
        show j_X11_image_18 false (wI υ 306 0 0) = _
        unfold j_X11_image_18
        rw [e_pF, if_neg (by decide), e3, e_bs]
        unfold j_X11_image_137
        rw [e4, e_bs]
        unfold j_X11_image_167
        rw [show (289 : Int32) = i32 289 from rfl, show (290 : Int32) = i32 290 from rfl, e_gI ln_323 (by omega) (by omega), e_pF, e_gI ln_323 (by omega) (by omega), wI_1, if_neg (by omega), e_pF, e_pF, e_pF, hτ9]
      · rw [g9 x (by omega), g4 x (by omega) (by omega) (by omega)]
        funext z; rw [wI_1, if_neg (by omega)]
      · rw [l9']; rfl
      · refine ⟨ri1.copied (fun k hk => ?_), ⟨by rw [k04, e323]; exact ri2, by rw [k27, e323]; exact ri3, fun i hi => ?_⟩, ⟨by rw [k03]; rfl, fun j Y (hj : ([] : List GR)[j]? = some Y) => by simp at hj⟩, ⟨?_, fun z hz => ?_⟩, ⟨by rw [k9 18 (by omega) (by omega) (by omega) (by omega), k4 18 (by omega)]; exact r5.1, fun p x hp => by rw [g9 317 (by omega), g4 317 (by omega) (by omega) (by omega)]; exact r5.2 p x hp⟩, ⟨by rw [k9 19 (by omega) (by omega) (by omega) (by omega), k4 19 (by omega)]; exact r6.1, by rw [k9 20 (by omega) (by omega) (by omega) (by omega), k4 20 (by omega)]; exact r6.2⟩, ⟨false, k09, fun z => absurd z (by decide)⟩, fun m hm => by rw [l9']; exact r8 m hm⟩
        · rw [g9 307 (by omega), o4.2 307 (by omega), v3 k hk, wI_1, if_neg (by omega)]
        · have hi6 : i < 6 := Nat.lt_of_lt_of_le hi hy6
          have := v4 i hi6
          rw [Nat.zero_add] at this
          rw [g9 318 (by omega), this, o3'.2 323 (by omega), wI_1, if_neg (by omega)]
          exact ri4 i hi
        · rw [k9 37 (by omega) (by omega) (by omega) (by omega), k37, hI]; rfl
        · have hz' : y = z := Option.some.inj (hI.symm.trans hz)
          subst hz'
          rw [g9 323 (by omega), e323]
          exact ⟨ri1.eqs (by rw [g9 323 (by omega), e323]), ri2, ri3, ri4⟩
end UND
end
section
/-! registers looked up, results kept -/
section RGS
variable {σ : Mem} {G : GD}
theorem OL.sc {P : Nat → Prop} {τ : Mem} (h : OL P σ τ) (hP : ∀ x, P x → (35 ≤ x ∧ x ≤ 47) ∨ (72 ≤ x ∧ x ≤ 127) ∨ (132 ≤ x ∧ x ≤ 177)) : SC σ τ :=
  ⟨fun x _ => by rw [h.1], fun c _ => by rw [h.1], fun c _ => by rw [h.1], fun x hx => h.2 x (fun z => by have := hP x z; omega)⟩
/-- what a register becomes -/
def upR (G : GD) (R : Nat → Nat → Int) (r : Nat) (A : Nat → Int) : Nat → Nat → Int := fun q i => if q = r then (if i < gn G then (oi (A i)).toInt else 0) else R q i
theorem upR_congr {R : Nat → Nat → Int} {r : Nat} {A B : Nat → Int} (h : EqG G A B) : upR G R r A = upR G R r B := by
  funext q i
  unfold upR
  by_cases h1 : q = r
  · rw [if_pos h1, if_pos h1]
    by_cases h2 : i < gn G
    · rw [if_pos h2, if_pos h2, h i h2]
    · rw [if_neg h2, if_neg h2]
  · rw [if_neg h1, if_neg h1]
theorem isEl_congr {A B : Nat → Int} (h : EqG G A B) : isEl G A = isEl G B := by
  unfold isEl
  rw [decide_eq_decide]
  exact ⟨fun z k hk => by rw [← h k hk]; exact z k hk, fun z k hk => by rw [h k hk]; exact z k hk⟩
theorem isEl_int {A : Nat → Int} (h : isEl G A = true) {k : Nat} (hk : k < gn G) : -999 ≤ (oi (A k)).toInt ∧ (oi (A k)).toInt ≤ 999 := by
  unfold isEl at h
  rw [decide_eq_true_eq] at h
  have h1 := h k hk
  have a1 := Int64.le_iff_toInt_le.mp h1.1
  have a2 := Int64.le_iff_toInt_le.mp h1.2
  have e1 : (-999 : Int64).toInt = -999 := by decide
  have e2 : (999 : Int64).toInt = 999 := by decide
  omega
/-- a register made, an act kept -/
def nS (S : AS) (r : Nat) (A : Nat → Int) : AS := ((aG S, upR (aG S) (aR S) r A), aT S, psh (aX S) (aA S), aI S, aP S, aF S)
/-- OVER counted -/
def ovS (S : AS) : AS := (aX S, ((aT S).1 + 1, (aT S).2), aA S, aI S, aP S, aF S)
theorem nS_ok {S : AS} {r : Nat} {A : Nat → Int} (ok : OKS S) (h : isEl (aG S) A = true) : OKS (nS S r A) := by
  refine ⟨⟨ok.1.1, fun q i => ?_, fun q i hi => ?_⟩, ok.2.1, ⟨?_, fun X hX => ?_⟩, ok.2.2.2⟩
  · show -999 ≤ upR _ _ _ _ q i ∧ upR _ _ _ _ q i ≤ 999
    unfold upR
    by_cases h1 : q = r
    · rw [if_pos h1]
      by_cases h2 : i < gn (aG S)
      · rw [if_pos h2]; exact isEl_int h h2
      · rw [if_neg h2]; omega
    · rw [if_neg h1]; exact ok.1.2.1 q i
  · show upR _ _ _ _ q i = 0
    unfold upR
    by_cases h1 : q = r
    · rw [if_pos h1, if_neg (show ¬ i < gn (aG S) from Nat.not_lt.mpr hi)]
    · rw [if_neg h1]; exact ok.1.2.2 q i hi
  · show (psh (aX S) (aA S)).length ≤ 8
    rw [psh_len]; omega
  · have h1 : X ∈ aX S :: aA S := List.mem_of_mem_take hX
    rcases List.mem_cons.mp h1 with h | h
    · rw [h]; exact ok.1
    · exact ok.2.2.1.2 X h
theorem ovS_ok {S : AS} (ok : OKS S) : OKS (ovS S) := ok
theorem reg_sb {S : AS} (ok : OKS S) (r : Nat) : SB (aG S) 999 (aR S r) := fun j _ _ => ok.1.2.1 r j
theorem reg_z6 {S : AS} (ok : OKS S) (r : Nat) : Z6 (aG S) (aR S r) := fun k h1 _ => ok.1.2.2 r k h1
theorem SB.w {B : Int} {A : Nat → Int} (hG : GOK G) (h : SB G B A) (hB : B ≤ 2 ^ 31) : W1 G A := h.w1 hG hB
/-- what the class finds in a register -/
theorem c_reg {c : Nat} {S : AS} (h : ICls c S σ) {r : Nat} (hr : r < 10) : H6 σ (6 + r) (aR S r) := fun k hk => h.1.2 r k hr hk
theorem c_poly {c : Nat} {S : AS} (h : ICls c S σ) (ok : OKS S) (hc : Cons (aG S)) : PolyOK (aG S) σ := CPoly.ok ok.1.1 (c_ct h hc)
theorem c_areUsable {b : Bool} (hb : σ.1 40 3 = b2i b) {x y : Int32} : f_X10_areUsable σ x y = some (isReg x && (isReg y && b)) := by
  unfold f_X10_areUsable
  rw [c_isReg, e_bs]
  cases isReg x with
  | false => rfl
  | true =>
    rw [if_pos rfl, c_isReg, e_bs]
    cases isReg y with
    | false => rfl
    | true =>
      rw [if_pos rfl, e_gZ hb]
      cases b <;> rfl
theorem r_can {S : AS} (h : IRef S σ) (ok : OKS S) {x y z : Int32} : ∃ b τ, f_X11_can σ x y z = some (isReg x && (isReg y && (isReg z && b)), τ) ∧ IRef S τ ∧ LO σ τ ∧ (b = true ↔ Cons (aG S)) ∧ ((isReg x && (isReg y && isReg z)) = true → τ.1 306 9 = 1 ∧ Laid τ (aG S)) := by
  have f0 : SR σ (wI σ 306 0 0) := SR.fld (by omega)
  obtain ⟨c, τ, e, hr, lo, h9, hl, hc⟩ := r_cons (h.sr f0) ok
  unfold f_X11_can
  rw [e_pF, r_isReg, e_bs, r_isReg, r_isReg]
  have no : ∀ b : Bool, b = false → ∃ b' τ, (some (Sum.inl (wI σ 306 0 0)) : Option (Mem ⊕ (Bool × Mem))).bind (Sum.elim (fun (z3 : Mem) => j_X11_can_40 z3) some) = some (b, τ) ∧ IRef S τ ∧ LO σ τ ∧ (b' = true ↔ Cons (aG S)) := fun b hb => ⟨c, wI σ 306 0 0, by rw [hb]; rfl, h.sr f0, f0.lo, hc⟩
  cases isReg x with
  | false =>
    obtain ⟨b', τ', a1, a2, a3, a4⟩ := no false rfl
    exact ⟨b', τ', a1, a2, a3, a4, fun z => Bool.noConfusion (show false = true from z)⟩
  | true =>
    rw [if_pos rfl, e_bs]
    cases isReg y with
    | false =>
      obtain ⟨b', τ', a1, a2, a3, a4⟩ := no false rfl
      exact ⟨b', τ', a1, a2, a3, a4, fun z => Bool.noConfusion (show false = true from z)⟩
    | true =>
      rw [if_pos rfl, e_bs]
      cases isReg z with
      | false =>
        obtain ⟨b', τ', a1, a2, a3, a4⟩ := no false rfl
        exact ⟨b', τ', a1, a2, a3, a4, fun z => Bool.noConfusion (show false = true from z)⟩
      | true =>
        rw [if_pos rfl, e, e_bq]
        refine ⟨c, τ, ?_, hr, f0.lo.trans lo, hc, fun _ => ⟨h9, hl⟩⟩
        cases c <;> rfl
theorem PS_congr {f g : SF} (h : ∀ s i, s < 100 → i < 6 → f s i = g s i) : PS σ f = PS σ g := by
  unfold PS
  refine Prod.ext rfl ?_
  funext x y
  show (if x = 313 ∧ y < 600 then oi (f (y / 6) (y % 6)) else _) = (if x = 313 ∧ y < 600 then oi (g (y / 6) (y % 6)) else _)
  by_cases h1 : x = 313 ∧ y < 600
  · rw [if_pos h1, if_pos h1, h _ _ (by omega) (by omega)]
  · rw [if_neg h1, if_neg h1]
theorem PS.sr {f : SF} : SR σ (PS σ f) := ⟨fun x hx => ⟨rfl, PS_2 (by omega)⟩, fun x _ => rfl, fun c _ => rfl, PS_2 (by omega), fun m _ => by rw [PS_2 (by omega)]⟩
theorem PS.sr2 {f g : SF} : SR (PS σ f) (PS σ g) := ⟨fun x hx => ⟨rfl, by rw [PS_2 (by omega), PS_2 (by omega)]⟩, fun x _ => rfl, fun c _ => rfl, by rw [PS_2 (by omega), PS_2 (by omega)], fun m _ => by rw [PS_2 (by omega), PS_2 (by omega)]⟩
theorem IRef.base {S : AS} {f : SF} (h : IRef S (PS σ f)) : IRef S σ := h.sr ⟨fun x hx => ⟨rfl, (PS_2 (by omega)).symm⟩, fun x _ => rfl, fun c _ => rfl, (PS_2 (by omega)).symm, fun m _ => by rw [PS_2 (by omega)]⟩
theorem o3_64 {v : Int} (h : -999 ≤ v ∧ v ≤ 999) : (o3 v).toInt64 = oi v := by
  rw [to64]
  unfold o3
  rw [Int32.toInt_ofInt, show Int32.size = 2 ^ 32 from rfl]
  congr 1
  apply Int.bmod_eq_of_le <;> omega
/-- a register laid at a place -/
theorem p_lays {S : AS} {f : SF} (h : RB σ 307 0 (aX S)) (ok : OKS S) {s r : Nat} (hs : s < 100) (hr : r < 10) : f_X11_laysRegister (PS σ f) (i32 s) (i32 r) = some (PS σ (uS f s (aR S r))) := by
  unfold f_X11_laysRegister
  refine loop_at (fun k => (PS σ (uS f s (fun i => if i < k then aR S r i else f s i)), i32 k)) 0 6 ?_ (by omega) (fun k _ hk => ?_) ?_
  · refine Prod.ext (PS_congr (fun q i _ _ => ?_)) rfl
    show uS f s (fun i => if i < 0 then aR S r i else f s i) q i = f q i
    unfold uS
    by_cases h1 : q = s
    · rw [if_pos h1, if_neg (Nat.not_lt_zero _), h1]
    · rw [if_neg h1]
  · show l_X11_laysRegister_2 (i32 s) (i32 r) _ (i32 k) = _
    unfold l_X11_laysRegister_2
    have hm : RB (PS σ (uS f s (fun i => if i < k then aR S r i else f s i))) 307 0 (aX S) := h.eqs rfl
    rw [i32_6, if_neg (i_nle hk (by omega)), e_ofRow hm hr hk, e_bs, o3_64 (ok.1.2.1 r k), p_puts hs hk, e_bs, i32_1, i32_add]
    refine congrArg (fun m => some (Sum.inl (m, i32 (k + 1)))) (PS_congr (fun q i _ _ => ?_))
    show uS (uS f s _) s (uV (uS f s (fun i => if i < k then aR S r i else f s i) s) k (aR S r k)) q i = uS f s (fun i => if i < k + 1 then aR S r i else f s i) q i
    unfold uS
    by_cases h1 : q = s
    · rw [if_pos h1, if_pos h1]
      unfold uV
      rw [if_pos rfl]
      by_cases h2 : i = k
      · rw [if_pos h2, if_pos (by omega), h2]
      · rw [if_neg h2]
        by_cases h3 : i < k
        · rw [if_pos h3, if_pos (by omega)]
        · rw [if_neg h3, if_neg (by omega)]
    · rw [if_neg h1, if_neg h1, if_neg h1]
  · show l_X11_laysRegister_2 (i32 s) (i32 r) _ (i32 6) = _
    unfold l_X11_laysRegister_2
    rw [if_pos (by decide)]
    congr 2
    refine PS_congr (fun q i _ hi => ?_)
    unfold uS
    by_cases h1 : q = s
    · rw [if_pos h1, if_pos h1, if_pos hi]
    · rw [if_neg h1, if_neg h1]
/-- registers changed alone -/
theorem IRef.newR {S : AS} {R : Nat → Nat → Int} {τ : Mem} (h : IRef S σ) (f : OI 307 σ τ) (hX : RB τ 307 0 (aG S, R)) : IRef ((aG S, R), aT S, aA S, aI S, aP S, aF S) τ := by
  obtain ⟨h1, h2, h3, h4, h5, h6, h7, h8⟩ := h
  have g : ∀ x, x ≠ 307 → τ.1 x = σ.1 x := f.2
  exact ⟨hX, ⟨by rw [g 306 (by omega)]; exact h2.1, by rw [g 306 (by omega)]; exact h2.2.1, fun i hi => by rw [g 318 (by omega)]; exact h2.2.2 i hi⟩, ⟨by rw [g 306 (by omega)]; exact h3.1, fun j Y hj => (h3.2 j Y hj).eqs (g 308 (by omega))⟩, ⟨by rw [g 306 (by omega)]; exact h4.1, fun y hy => by
    rw [g 323 (by omega)]
    exact ⟨(h4.2 y hy).1.eqs (g 323 (by omega)), (h4.2 y hy).2⟩⟩, ⟨by rw [g 306 (by omega)]; exact h5.1, fun p x hp => by rw [g 317 (by omega)]; exact h5.2 p x hp⟩, ⟨by rw [g 306 (by omega)]; exact h6.1, by rw [g 306 (by omega)]; exact h6.2⟩, h7.eqs (by rw [g 306 (by omega)]) (by rw [g 306 (by omega)]) (g 311 (by omega)) (by rw [f.1]), fun m hm => by rw [f.1]; exact h8 m hm⟩
theorem IRef.over {S : AS} (h : IRef S σ) : IRef (ovS S) (wI σ 306 4 ((aT S).1 + 1)) := by
  obtain ⟨h1, h2, h3, h4, h5, h6, h7, h8⟩ := h
  have g : ∀ x, x ≠ 306 → (wI σ 306 4 ((aT S).1 + 1)).1 x = σ.1 x := fun x hx => by funext y; rw [wI_1, if_neg (fun z => hx z.1)]
  have k : ∀ c, c ≠ 4 → (wI σ 306 4 ((aT S).1 + 1)).1 306 c = σ.1 306 c := fun c hc => by rw [wI_1, if_neg (fun z => hc z.2)]
  exact ⟨h1.eqs (g 307 (by omega)), ⟨by rw [wI_1, if_pos ⟨rfl, rfl⟩]; rfl, by rw [k 27 (by omega)]; exact h2.2.1, fun i hi => by rw [g 318 (by omega)]; exact h2.2.2 i hi⟩, ⟨by rw [k 3 (by omega)]; exact h3.1, fun j Y hj => (h3.2 j Y hj).eqs (g 308 (by omega))⟩, ⟨by rw [k 37 (by omega)]; exact h4.1, fun y hy => by
    rw [g 323 (by omega)]
    exact ⟨(h4.2 y hy).1.eqs (g 323 (by omega)), (h4.2 y hy).2⟩⟩, ⟨by rw [k 18 (by omega)]; exact h5.1, fun p x hp => by rw [g 317 (by omega)]; exact h5.2 p x hp⟩, ⟨by rw [k 19 (by omega)]; exact h6.1, by rw [k 20 (by omega)]; exact h6.2⟩, h7.eqs (k 9 (by omega)) (k 10 (by omega)) (g 311 (by omega)) rfl, h8⟩
/-- a result given to a register, by the reference -/
theorem r_gives {S : AS} {f : SF} (h : IRef S (PS σ f)) (ok : OKS S) {r s : Nat} (hr : r < 10) (hs : s < 100) : ∃ τ, f_X11_gives (PS σ f) (i32 r) (i32 s) = some (isEl (aG S) (f s), τ) ∧ IRef (if isEl (aG S) (f s) = true then nS S r (f s) else ovS S) τ ∧ LO (PS σ f) τ := by
  have hG : GOK (aG S) := ok.1.1
  have hn : gn (aG S) ≤ 6 := hG.2.1
  have hM : MG σ (aG S) := h.base.1.mg
  unfold f_X11_gives
  rw [p_isElement hM hG hs, e_bs]
  cases hel : isEl (aG S) (f s) with
  | false =>
    rw [if_neg (by decide), if_neg (by decide), e_gF, h.2.1.1, e_pF]
    exact ⟨_, rfl, h.over, LO.row (by omega)⟩
  | true =>
    rw [if_pos rfl, if_pos rfl]
    obtain ⟨σ2, e2, r2, l2, s2, t2⟩ := r_keep2 h ok
    rw [e2, e_bs]
    have hM2 : MG σ2 (aG S) := r2.1.mg
    have hl := loop_inv (body := fun (z4 : (Mem × Int32)) => l_X11_gives_26 (i32 r) (i32 s) z4.1 z4.2) (fun n z => ∃ i τ, i ≤ 6 ∧ n = 6 - i ∧ z = (τ, i32 i) ∧ OI 307 σ2 τ ∧ (∀ p, p < i → τ.1 307 (223 + 6 * r + p) = o3 (upR (aG S) (aR S) r (f s) r p)) ∧ ∀ y, y < 223 + 6 * r ∨ 223 + 6 * r + 6 ≤ y → τ.1 307 y = σ2.1 307 y) (fun q => ∃ τ, q = (true, τ) ∧ OI 307 σ2 τ ∧ (∀ p, p < 6 → τ.1 307 (223 + 6 * r + p) = o3 (upR (aG S) (aR S) r (f s) r p)) ∧ ∀ y, y < 223 + 6 * r ∨ 223 + 6 * r + 6 ≤ y → τ.1 307 y = σ2.1 307 y) ?_ 6 (σ2, 0) ⟨0, σ2, by omega, rfl, rfl, ⟨rfl, fun _ _ => rfl⟩, fun p hp => absurd hp (Nat.not_lt_zero _), fun _ _ => rfl⟩
    · obtain ⟨q, e3, τ, rfl, o, v, w⟩ := hl
      refine ⟨τ, e3, r2.newR o ⟨?_, fun i hi => ?_, fun j i k hj hi hk => ?_, fun q i hq hi => ?_⟩, l2.trans (fun x hx => ⟨o.2 x (by omega), by rw [o.1]⟩)⟩
      · rw [w _ (by omega)]; exact r2.1.1
      · rw [w _ (by omega)]; exact r2.1.2.1 i hi
      · rw [w _ (by omega)]; exact r2.1.2.2.1 j i k hj hi hk
      · rw [Nat.zero_add]
        by_cases h1 : q = r
        · subst h1; exact v i hi
        · rw [w _ (by omega)]
          have := r2.1.2.2.2 q i hq hi
          rw [Nat.zero_add] at this
          rw [this]
          show o3 (aR S q i) = o3 (upR _ _ _ _ q i)
          unfold upR
          rw [if_neg h1]
    · rintro n z ⟨i, τ, hi, rfl, rfl, o, v, w⟩
      have hMτ : MG τ (aG S) := by
        unfold MG
        refine ⟨by rw [w _ (by omega)]; exact hM2.1, fun a ha => by rw [w _ (by omega)]; exact hM2.2.1 a ha, fun a b c ha hb hc => by rw [w _ (by omega)]; exact hM2.2.2 a b c ha hb hc⟩
      by_cases hi6 : i = 6
      · right
        subst hi6
        refine ⟨_, ?_, τ, rfl, o, v, w⟩
        show l_X11_gives_26 _ _ τ (i32 6) = _
        unfold l_X11_gives_26
        rw [if_pos (by decide)]
      · left
        have hval : (if i32 (gn (aG S)) ≤ i32 i then (some 0) else ((f_X11_of τ (i32 s) (i32 i)).bind (fun (v8 : Int64) => some (Int64.toInt32 v8))) : Option Int32) = some (o3 (upR (aG S) (aR S) r (f s) r i)) := by
          unfold upR
          rw [if_pos rfl]
          by_cases h1 : i < gn (aG S)
          · have hvec : vec τ s i = oi (f s i) := by
              unfold vec
              rw [o.1, s2]
              exact PS_vec hs (by omega)
            rw [if_neg (i_nle h1 (by omega)), e_of hs (by omega), e_bs, if_pos h1, hvec, ← o3_oi (isEl_int hel h1)]
            congr 2
            exact (Int64.ofInt_toInt _).symm
          · rw [if_pos (i_le (by omega) (by omega)), if_neg h1]; rfl
        refine ⟨(wI τ 307 (223 + 6 * r + i) (o3 (upR (aG S) (aR S) r (f s) r i)), i32 (i + 1)), 6 - (i + 1), by omega, ?_, i + 1, _, by omega, rfl, rfl, ⟨o.1, fun x hx => ?_⟩, fun p hp => ?_, fun y hy => ?_⟩
        · show l_X11_gives_26 (i32 r) (i32 s) τ (i32 i) = _
          unfold l_X11_gives_26
          rw [i32_6, if_neg (i_nle (by omega) (by omega)), e_n hMτ, e_bs, hval, e_bs]
          unfold j_X11_gives_65
          rw [i32_223, i32_6, i32_mul, i32_add, i32_add, e_pI ln_307 (by omega) (by omega), i32_1, i32_add]
        · funext y; rw [wI_1, if_neg (fun z => hx z.1), o.2 x hx]
        · rw [wI_1]
          by_cases h1 : p = i
          · rw [if_pos ⟨rfl, by omega⟩, h1]
          · rw [if_neg (by omega)]; exact v p (by omega)
        · rw [wI_1, if_neg (by omega)]; exact w y hy
/-- a result kept, by the class -/
theorem c_keep {c : Nat} {S : AS} {A : Nat → Int} (h : ICls c S σ) (ok : OKS S) (hA : H6 σ 176 A) (zA : Z6 (aG S) A) {r : Nat} (hr : r < 10) (hel : isEl (aG S) A = true) : ∃ τ, f_X10_keep σ (i32 r) = some (true, τ) ∧ ICls (c + 1) (nS S r A) τ ∧ HI σ τ := by
  have hG : GOK (aG S) := ok.1.1
  unfold f_X10_keep
  obtain ⟨σ3, e3, a3, f3⟩ := c_beginAct h.1 h.2.2.1 ok.2.2.1.1
  have l176 : σ3.2 176 = σ.2 176 := f3.2.1 176 (by omega)
  obtain ⟨τ, e4, o4, v4⟩ := c_copyRow (σ := σ3) (a := 176) (b := 6 + r) ln_176 (ln_reg hr)
  rw [c_isReg, e_bs, isReg_of hr, if_pos rfl, c_isElement hG ln_176 hA zA, e_bs, hel, if_pos rfl, e3, e_bs, e_gR ln_5 hr (by omega), rf_5 hr, e4, e_bs]
  obtain ⟨q2, q3, q4, q5, q6⟩ := h.rest
  have g : ∀ x, x ≠ 0 → x < 178 ∨ 305 < x → τ.1 x = σ.1 x := fun x h0 hx => by rw [o4.1]; exact f3.1 x h0 hx
  have g2 : ∀ x, (x < 178 ∨ 305 < x) → x ≠ 6 + r → τ.2 x = σ.2 x := fun x hx hn => by rw [o4.2 x hn]; exact f3.2.1 x hx
  have g0 : ∀ c, c ≠ 4 → c ≠ 5 → τ.1 0 c = σ.1 0 c := fun c c1 c2 => by rw [o4.1]; exact f3.2.2 c c1 c2
  refine ⟨τ, rfl, ICls.up (ICls.mk ⟨?_, fun q i hq hi => ?_⟩ ⟨q2.eqs (g 16 (by omega) (by omega)), a3.eqs (by rw [o4.1]) (fun x b1 b2 => by rw [o4.1]) (fun x b1 b2 => o4.2 x (by omega)), ⟨by rw [g0 2 (by omega) (by omega)]; exact q4.1, fun y hy => ⟨(q4.2 y hy).1.eqs (fun x a b => g x (by omega) (by omega)) (fun x a b => g2 x (by omega) (by omega)), (q4.2 y hy).2.eqs (g 32 (by omega) (by omega))⟩⟩, ⟨by rw [g0 7 (by omega) (by omega)]; exact q5.1, fun p x hp => by rw [g 34 (by omega) (by omega)]; exact q5.2 p x hp⟩, by rw [g 144 (by omega) (by omega)]; exact q6.1, by rw [g 144 (by omega) (by omega)]; exact q6.2⟩ (h.law.eqs (fun c _ => by rw [g 40 (by omega) (by omega)]) (fun x hx => g x (by omega) (by omega)) (fun x hx => g2 x (by omega) (by omega)))), fun x hx => ⟨g x (by omega) (by omega), g2 x (by omega) (by omega)⟩⟩
  · have := h.1.1
    show CG τ 2 (aG S)
    unfold CG
    rw [g 2 (by omega) (by omega), g (2 + 1) (by omega) (by omega), g (2 + 2) (by omega) (by omega)]
    exact this
  · show τ.2 (6 + q) i = oi (upR (aG S) (aR S) r A q i)
    unfold upR
    by_cases h1 : q = r
    · rw [if_pos h1, h1, v4 i hi, l176, hA i hi]
      by_cases h2 : i < gn (aG S)
      · rw [if_pos h2]; exact (Int64.ofInt_toInt _).symm
      · rw [if_neg h2, zA i (by omega) hi]
    · rw [if_neg h1, g2 _ (by omega) (by omega)]
      exact h.1.2 q i hq hi
theorem c_keepCounted {c : Nat} {S : AS} {A : Nat → Int} (h : ICls c S σ) (ok : OKS S) (hA : H6 σ 176 A) (zA : Z6 (aG S) A) {r : Nat} (hr : r < 10) : ∃ τ, f_X10_keepCounted σ (i32 r) = some (isEl (aG S) A, τ) ∧ ICls (c + 1) (if isEl (aG S) A = true then nS S r A else ovS S) τ ∧ HI σ τ := by
  have hG : GOK (aG S) := ok.1.1
  unfold f_X10_keepCounted
  rw [c_isElement hG ln_176 hA zA, e_bs]
  cases hel : isEl (aG S) A with
  | true =>
    obtain ⟨τ, e, i, hi⟩ := c_keep h ok hA zA hr hel
    rw [if_pos rfl, if_pos rfl, e, e_bq]
    exact ⟨τ, rfl, i, hi⟩
  | false =>
    obtain ⟨q2, q3, q4, q5, q6⟩ := h.rest
    rw [if_neg (by decide), if_neg (by decide), i32_0, e_gI ln_16 (by omega) (by omega), e_pI ln_16 (by omega) (by omega), q2.1]
    have g : ∀ x, x ≠ 16 → (wI σ 16 0 ((aT S).1 + 1)).1 x = σ.1 x := fun x hx => by funext y; rw [wI_1, if_neg (fun z => hx z.1)]
    refine ⟨_, rfl, ICls.up (ICls.mk (h.1.eqs (fun x a b => g x (by omega)) (fun _ _ _ => rfl)) ⟨⟨by rw [wI_1, if_pos ⟨rfl, rfl⟩]; rfl, by rw [wI_1, if_neg (by omega)]; exact q2.2.1, fun i hi => by rw [wI_1, if_neg (by omega)]; exact q2.2.2 i hi⟩, q3.eqs (g 0 (by omega)) (fun x _ _ => g x (by omega)) (fun _ _ _ => rfl), ⟨by rw [g 0 (by omega)]; exact q4.1, fun y hy => ⟨(q4.2 y hy).1.eqs (fun x a b => g x (by omega)) (fun _ _ _ => rfl), (q4.2 y hy).2.eqs (g 32 (by omega))⟩⟩, ⟨by rw [g 0 (by omega)]; exact q5.1, fun p x hp => by rw [g 34 (by omega)]; exact q5.2 p x hp⟩, by rw [g 144 (by omega)]; exact q6.1, by rw [g 144 (by omega)]; exact q6.2⟩ (h.law.eqs (fun c _ => by rw [g 40 (by omega)]) (fun x hx => g x (by omega)) (fun _ _ => rfl))), fun x hx => ⟨g x (by omega), rfl⟩⟩
end RGS
end
