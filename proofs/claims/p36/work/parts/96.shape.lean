/-! the shape of a polynomial -/
section SH
variable {σ : Mem} {G : GD}
def mx32 (a b : Int32) : Int32 := if a < b then b else a
theorem e_max {a b : Int32} : f_J9_max_7cf53 σ a b = some (mx32 a b) := by
  unfold f_J9_max_7cf53 mx32
  split <;> rfl
def sD (G : GD) (e : List Nat) : Int32 := i32 (fo (· + ·) 0 (dg G e) 12)
def sW (G : GD) (e : List Nat) : Int32 := i32 (fo (· + ·) 0 (fun v => dg G e v * gw G (v % 6)) 12)
def HB (G : GD) (e : List Nat) : Prop := ∃ i, i < gn G ∧ e.getD i 0 ≠ 0 ∧ e.getD (gn G + i) 0 ≠ 0
noncomputable def hb (G : GD) (e : List Nat) : Bool := @decide (HB G e) (Classical.propDecidable _)
theorem hb_iff {e : List Nat} : hb G e = true ↔ HB G e := by
  unfold hb
  exact @decide_eq_true_iff (HB G e) (Classical.propDecidable _)
/-- what is told of a list of terms -/
def fld (op : Int32 → List Nat → Int32) (T : List (List Nat)) : Int32 := T.foldl op 0
theorem fld_snoc {op : Int32 → List Nat → Int32} {T : List (List Nat)} {e : List Nat} : fld op (T ++ [e]) = op (fld op T) e := by
  unfold fld
  rw [List.foldl_append]
  rfl
/-- a loop over a list's places -/
theorem loop_list {X : Type} {body : Int32 × Int32 → Option ((Int32 × Int32) ⊕ X)} {T : List (List Nat)} {op : Int32 → List Nat → Int32} {x : X} (hs : ∀ t e a, T[t]? = some e → t < T.length → body (a, i32 t) = some (Sum.inl (op a e, i32 (t + 1)))) (he : body (fld op T, i32 T.length) = some (Sum.inr x)) : loopO body (0, 0) = some x := by
  refine loop_at (fun t => (fld op (T.take t), i32 t)) 0 T.length (by rw [List.take_zero]; rfl) (Nat.zero_le _) (fun t _ ht => ?_) (by rw [List.take_length]; exact he)
  rw [List.take_succ_eq_append_getElem ht, fld_snoc]
  exact hs t _ _ (List.getElem?_eq_getElem ht) ht
section CS
variable {k : Nat} {T : List (List Nat)}
theorem c_keyd (hG : GOK G) (hk : k < 6) (hT : CT G σ k T) (hl : T.length ≤ 455) {t : Nat} {e : List Nat} (he : T[t]? = some e) (h3 : ∀ d, d ∈ e → d ≤ 3) {α : Type} {v : Nat} (hv : v < 12) {f : Int32 → Option α} : gI σ (rf (48 + 4 * k) 1) (i32 t) (fun (v8 : Int32) => (f_X10_degree σ v8 (i32 v)).bind f) = f (i32 (dg G e v)) := by
  obtain ⟨r1, r2, r3, l1, l2, l3⟩ := rfk hk
  have ht : t < T.length := (List.getElem?_eq_some_iff.mp he).1
  rw [r1, e_gI l1 (by omega) (by omega), (hT.2 t e he).1, c_degree (fun u _ => dg_le (G := G) h3 u) hv, e_bs]
theorem c_shape0 (hG : GOK G) (hk : k < 6) (hT : CT G σ k T) (hl : T.length ≤ 455) (h3 : ∀ e, e ∈ T → ∀ d, d ∈ e → d ≤ 3) : f_X9_greatestDegree σ (48 + 4 * k) = some (fld (fun a e => mx32 a (sD G e)) T) := by
  unfold f_X9_greatestDegree
  refine loop_list (T := T) (op := fun a e => mx32 a (sD G e)) (fun t e a he ht => ?_) ?_
  · show l_X9_greatestDegree_4 σ (48 + 4 * k) a (i32 t) = _
    unfold l_X9_greatestDegree_4
    have hin : loopO (fun (z7 : (Int32 × Int32)) => l_X9_greatestDegree_17 σ (48 + 4 * k) (i32 t) z7.1 z7.2) (0, 0) = some (sD G e) := by
      refine loop_at (fun v => (i32 (fo (· + ·) 0 (dg G e) v), i32 v)) 0 12 rfl (Nat.zero_le _) (fun v _ hv => ?_) ?_
      · show l_X9_greatestDegree_17 σ (48 + 4 * k) (i32 t) _ (i32 v) = _
        unfold l_X9_greatestDegree_17
        rw [show (12 : Int32) = i32 12 from rfl, if_neg (i_nle hv (by omega)), c_keyd hG hk hT hl he (h3 e (List.mem_of_getElem? he)) hv, e_bd, i32_add, i32_1, i32_add]
        rfl
      · show l_X9_greatestDegree_17 σ (48 + 4 * k) (i32 t) _ (i32 12) = _
        unfold l_X9_greatestDegree_17
        rw [if_pos (by decide)]
        rfl
    rw [e_gF, hT.1, if_neg (i_nle ht (by omega)), hin, e_bs]
    unfold j_X9_greatestDegree_44
    rw [e_max, e_bs, i32_1, i32_add]
  · show l_X9_greatestDegree_4 σ (48 + 4 * k) _ (i32 T.length) = _
    unfold l_X9_greatestDegree_4
    rw [e_gF, hT.1, if_pos (i_le (Nat.le_refl _) (by omega))]
theorem c_shape1 (hG : GOK G) (hm : CG σ 2 G) (hk : k < 6) (hT : CT G σ k T) (hl : T.length ≤ 455) (h3 : ∀ e, e ∈ T → ∀ d, d ∈ e → d ≤ 3) : f_X9_greatestWeight σ (48 + 4 * k) 2 = some (fld (fun a e => mx32 a (sW G e)) T) := by
  unfold f_X9_greatestWeight
  refine loop_list (T := T) (op := fun a e => mx32 a (sW G e)) (fun t e a he ht => ?_) ?_
  · show l_X9_greatestWeight_4 σ (48 + 4 * k) 2 a (i32 t) = _
    unfold l_X9_greatestWeight_4
    have hin : loopO (fun (z7 : (Int32 × Int32)) => l_X9_greatestWeight_18 σ (48 + 4 * k) 2 (i32 t) z7.1 z7.2) (0, 0) = some (sW G e) := by
      refine loop_at (fun v => (i32 (fo (· + ·) 0 (fun v => dg G e v * gw G (v % 6)) v), i32 v)) 0 12 rfl (Nat.zero_le _) (fun v _ hv => ?_) ?_
      · show l_X9_greatestWeight_18 σ (48 + 4 * k) 2 (i32 t) _ (i32 v) = _
        unfold l_X9_greatestWeight_18
        have e3 : σ.1 3 (v % 6) = i32 (gw G (v % 6)) := hm.2.1 (v % 6) (by omega)
        rw [show (12 : Int32) = i32 12 from rfl, if_neg (i_nle hv (by omega)), c_keyd hG hk hT hl he (h3 e (List.mem_of_getElem? he)) hv, e_nzI (by decide), i_mod6 hv, show rf 2 1 = 3 by decide +kernel, e_gI ln_3 (by omega) (by omega), e3, e_bd, i32_mul, i32_add, i32_1, i32_add]
        rfl
      · show l_X9_greatestWeight_18 σ (48 + 4 * k) 2 (i32 t) _ (i32 12) = _
        unfold l_X9_greatestWeight_18
        rw [if_pos (by decide)]
        rfl
    rw [e_gF, hT.1, if_neg (i_nle ht (by omega)), hin, e_bs]
    unfold j_X9_greatestWeight_58
    rw [e_max, e_bs, i32_1, i32_add]
  · show l_X9_greatestWeight_4 σ (48 + 4 * k) 2 _ (i32 T.length) = _
    unfold l_X9_greatestWeight_4
    rw [e_gF, hT.1, if_pos (i_le (Nat.le_refl _) (by omega))]
theorem c_hasBoth (hG : GOK G) {e : List Nat} (h3 : ∀ d, d ∈ e → d ≤ 3) : f_X9_hasBoth σ (i32 (ky (dg G e) 12)) = some (hb G e) := by
  have hn := hG.2.1
  unfold f_X9_hasBoth
  have hdg := fun u (_ : u < 12) => dg_le (G := G) h3 u
  have hl := loop_inv (body := fun (z1 : Int32) => l_X9_hasBoth_2 σ (i32 (ky (dg G e) 12)) z1) (fun n z => ∃ i, i ≤ 6 ∧ n = 6 - i ∧ z = i32 i ∧ ∀ p, p < i → dg G e p = 0 ∨ dg G e (6 + p) = 0) (fun b => b = true ↔ HB G e) ?_ 6 0 ⟨0, by omega, rfl, rfl, fun p hp => absurd hp (Nat.not_lt_zero _)⟩
  · obtain ⟨b, e1, h1⟩ := hl
    rw [show (fun (z1 : Int32) => l_X9_hasBoth_2 σ (i32 (ky (dg G e) 12)) z1) = fun z1 => l_X9_hasBoth_2 σ (i32 (ky (dg G e) 12)) z1 from rfl, e1, bool_iff h1 hb_iff]
  · have hd : ∀ i, i < gn G → dg G e i = e.getD i 0 ∧ dg G e (6 + i) = e.getD (gn G + i) 0 := fun i hi => by
      unfold dg
      rw [if_pos (by omega), if_pos hi, if_neg (by omega), if_pos (by omega), show 6 + i - 6 = i by omega]
      exact ⟨rfl, rfl⟩
    rintro n z ⟨i, hi, rfl, rfl, hv⟩
    by_cases hi6 : i = 6
    · right
      subst hi6
      refine ⟨false, ?_, ⟨fun z => absurd z (by decide), fun ⟨p, hp, h1, h2⟩ => ?_⟩⟩
      · show l_X9_hasBoth_2 σ _ (i32 6) = _
        unfold l_X9_hasBoth_2
        rw [if_pos (by decide)]
      · have := hd p hp
        rcases hv p (by omega) with h4 | h4
        · exact absurd (this.1.symm.trans h4) h1
        · exact absurd (this.2.symm.trans h4) h2
    · have hi' : i < 6 := by omega
      have a1 := hdg i (by omega)
      have a2 := hdg (6 + i) (by omega)
      have hstart : ∀ {y}, ((if i32 (dg G e i) ≤ 0 then (some (Sum.inl ())) else ((f_X10_degree σ (i32 (ky (dg G e) 12)) (6 + i32 i)).bind (fun (v3 : Int32) => if v3 ≤ 0 then (some (Sum.inl ())) else (some (Sum.inr (Sum.inr true))))) : Option (Unit ⊕ (Int32 ⊕ Bool))).bind (Sum.elim (fun (z2 : Unit) => j_X9_hasBoth_29 (i32 i)) some)) = y → l_X9_hasBoth_2 σ (i32 (ky (dg G e) 12)) (i32 i) = y := by
        intro y hy
        unfold l_X9_hasBoth_2
        rw [if_neg (show ¬ (6 : Int32) ≤ i32 i from i_nle (b := i) (a := 6) hi' (by omega)), c_degree hdg (by omega), e_bs]
        exact hy
      have again : (∀ p, p < i + 1 → dg G e p = 0 ∨ dg G e (6 + p) = 0) → l_X9_hasBoth_2 σ (i32 (ky (dg G e) 12)) (i32 i) = some (Sum.inl (i32 (i + 1))) → ∃ s' n', n' < 6 - i ∧ (fun (z1 : Int32) => l_X9_hasBoth_2 σ (i32 (ky (dg G e) 12)) z1) (i32 i) = some (Sum.inl s') ∧ ∃ i, i ≤ 6 ∧ n' = 6 - i ∧ s' = i32 i ∧ ∀ p, p < i → dg G e p = 0 ∨ dg G e (6 + p) = 0 := fun h1 h2 => ⟨i32 (i + 1), 6 - (i + 1), by omega, h2, i + 1, by omega, rfl, rfl, h1⟩
      have j29 : j_X9_hasBoth_29 (i32 i) = some (Sum.inl (i32 (i + 1))) := by
        unfold j_X9_hasBoth_29
        rw [i32_1, i32_add]
      by_cases h1 : dg G e i = 0
      · left
        refine again (fun p hp => ?_) ?_
        · by_cases h2 : p = i
          · rw [h2]; exact Or.inl h1
          · exact hv p (by omega)
        · refine hstart ?_
          rw [h1, if_pos (by decide), e_bs]
          exact j29
      · by_cases h2 : dg G e (6 + i) = 0
        · left
          refine again (fun p hp => ?_) ?_
          · by_cases h4 : p = i
            · rw [h4]; exact Or.inr h2
            · exact hv p (by omega)
          · refine hstart ?_
            rw [if_neg (show ¬ i32 (dg G e i) ≤ 0 from i_nle (b := 0) (by omega) (by omega)), i32_6, i32_add, c_degree hdg (by omega), e_bs, h2, if_pos (by decide), e_bs]
            exact j29
        · right
          refine ⟨true, ?_, ⟨fun _ => ?_, fun _ => rfl⟩⟩
          · show l_X9_hasBoth_2 σ _ (i32 i) = _
            refine hstart ?_
            rw [if_neg (show ¬ i32 (dg G e i) ≤ 0 from i_nle (b := 0) (by omega) (by omega)), i32_6, i32_add, c_degree hdg (by omega), e_bs, if_neg (show ¬ i32 (dg G e (6 + i)) ≤ 0 from i_nle (b := 0) (by omega) (by omega)), e_bs]
            rfl
          · have hin : i < gn G := by
              refine Nat.lt_of_not_le (fun q => h1 ?_)
              exact dg_out (by omega) (by rw [Nat.mod_eq_of_lt hi']; exact q)
            have := hd i hin
            exact ⟨i, hin, fun z => h1 (this.1.trans z), fun z => h2 (this.2.trans z)⟩
theorem c_shape2 (hG : GOK G) (hk : k < 6) (hT : CT G σ k T) (hl : T.length ≤ 455) (h3 : ∀ e, e ∈ T → ∀ d, d ∈ e → d ≤ 3) : f_X9_termsInBothRows σ (48 + 4 * k) = some (fld (fun a e => a + b2i (hb G e)) T) := by
  obtain ⟨r1, r2, r3, l1, l2, l3⟩ := rfk hk
  unfold f_X9_termsInBothRows
  refine loop_list (T := T) (op := fun a e => a + b2i (hb G e)) (fun t e a he ht => ?_) ?_
  · show l_X9_termsInBothRows_4 σ (48 + 4 * k) a (i32 t) = _
    unfold l_X9_termsInBothRows_4
    rw [e_gF, hT.1, if_neg (i_nle ht (by omega)), r1, e_gI l1 (by omega) (by omega), (hT.2 t e he).1, c_hasBoth hG (h3 e (List.mem_of_getElem? he)), e_bs]
    unfold j_X9_termsInBothRows_30
    cases hb G e
    · rw [if_neg (by decide), e_bs, e_bd, i32_1, i32_add]
    · rw [if_pos rfl, e_bs, e_bd, i32_1, i32_add]
  · show l_X9_termsInBothRows_4 σ (48 + 4 * k) _ (i32 T.length) = _
    unfold l_X9_termsInBothRows_4
    rw [e_gF, hT.1, if_pos (i_le (Nat.le_refl _) (by omega))]
theorem c_shape3 (hk : k < 6) (hT : CT G σ k T) (hl : T.length ≤ 455) : ∃ s, f_X9_sumOfNumbers σ (48 + 4 * k) = some s ∧ s.toInt32 = fld (fun a e => a + (oi (cf G k e)).toInt32) T := by
  obtain ⟨r1, r2, r3, l1, l2, l3⟩ := rfk hk
  unfold f_X9_sumOfNumbers
  refine loop_inv (body := fun (z2 : (Int64 × Int32)) => l_X9_sumOfNumbers_4 σ (48 + 4 * k) z2.1 z2.2) (fun n z => ∃ t s, t ≤ T.length ∧ n = T.length - t ∧ z = (s, i32 t) ∧ s.toInt32 = fld (fun a e => a + (oi (cf G k e)).toInt32) (T.take t)) _ ?_ T.length (0, 0) ⟨0, 0, Nat.zero_le _, rfl, rfl, by rw [List.take_zero]; rfl⟩
  rintro n z ⟨t, s, ht, rfl, rfl, hs⟩
  by_cases htl : t = T.length
  · right
    refine ⟨s, ?_, by rw [hs, htl, List.take_length]⟩
    show l_X9_sumOfNumbers_4 σ (48 + 4 * k) s (i32 t) = _
    unfold l_X9_sumOfNumbers_4
    rw [e_gF, hT.1, if_pos (i_le (by omega) (by omega))]
  · left
    have ht' : t < T.length := by omega
    have hg := List.getElem?_eq_getElem ht'
    refine ⟨(s + oi (cf G k T[t]), i32 (t + 1)), T.length - (t + 1), by omega, ?_, t + 1, _, by omega, rfl, rfl, ?_⟩
    · show l_X9_sumOfNumbers_4 σ (48 + 4 * k) s (i32 t) = _
      unfold l_X9_sumOfNumbers_4
      rw [e_gF, hT.1, if_neg (i_nle ht' (by omega)), r2, e_gL l2 (by omega) (by omega), (hT.2 t _ hg).2.1, e_bd, i32_1, i32_add]
    · rw [Int64.toInt32_add, hs, List.take_succ_eq_append_getElem ht', fld_snoc]
end CS
section RS
variable {k : Nat} {T : List (List Nat)}
theorem r_tAt {t : Nat} : f_X11_termAt σ (i32 (k + 1)) (i32 t) = some (i32 (9100 * k + 13 * t)) := by
  unfold f_X11_termAt
  have hk1 : i32 (k + 1) - 1 = i32 k := by
    have := i32_sub (a := k + 1) (b := 1) (by omega)
    exact this
  rw [hk1, show (9100 : Int32) = i32 9100 from rfl, show (13 : Int32) = i32 13 from rfl, i32_mul, i32_mul, i32_add]
theorem sD_eq (hG : GOK G) {e : List Nat} : sD G e = i32 (fo (· + ·) 0 (fun p => e.getD p 0) (2 * gn G)) := by
  unfold sD
  rw [fo12 hG (fun a b c => Nat.add_assoc a b c) Nat.add_zero (fun v hv h => dg_out hv h)]
  have e1 : fo (· + ·) 0 (fun p => dg G e (vp G p)) (2 * gn G) = fo (· + ·) 0 (fun p => e.getD p 0) (2 * gn G) := fo_congr _ (fun p hp => dg_vp hG hp)
  exact congrArg i32 e1
theorem vp_mod (hG : GOK G) {p : Nat} (hp : p < 2 * gn G) : vp G p % 6 = p % gn G := by
  have hn := hG.2.1
  unfold vp
  by_cases h : p < gn G
  · rw [if_pos h, Nat.mod_eq_of_lt h, Nat.mod_eq_of_lt (by omega)]
  · have e : p % gn G = p - gn G := by rw [Nat.mod_eq_sub_mod (by omega), Nat.mod_eq_of_lt (by omega)]
    rw [if_neg h, e]
    omega
theorem sW_eq (hG : GOK G) {e : List Nat} : sW G e = i32 (fo (· + ·) 0 (fun p => e.getD p 0 * gw G (p % gn G)) (2 * gn G)) := by
  unfold sW
  rw [fo12 hG (fun a b c => Nat.add_assoc a b c) Nat.add_zero (fun v hv h => by rw [dg_out hv h, Nat.zero_mul])]
  have e1 : fo (· + ·) 0 (fun p => dg G e (vp G p) * gw G (vp G p % 6)) (2 * gn G) = fo (· + ·) 0 (fun p => e.getD p 0 * gw G (p % gn G)) (2 * gn G) := fo_congr _ (fun p hp => by rw [dg_vp hG hp, vp_mod hG hp])
  exact congrArg i32 e1
theorem r_get (hG : GOK G) (hT : RT G σ k T) {t : Nat} {e : List Nat} (he : T[t]? = some e) (h3 : ∀ d, d ∈ e → d ≤ 3) {p : Nat} (hp : p < 2 * gn G) : σ.2 312 (9100 * k + 13 * t + 1 + p) = oi (e.getD p 0 : Int) ∧ e.getD p 0 ≤ 3 := by
  have q := hT.2 t e he
  have hpe : p < e.length := by rw [q.1]; exact hp
  have h1 := q.2.2 p _ (List.getElem?_eq_getElem hpe)
  rw [List.getD_eq_getElem?_getD, List.getElem?_eq_getElem hpe]
  exact ⟨h1, h3 _ (List.getElem_mem hpe)⟩
theorem r_degreeOf (h : MG σ G) (hG : GOK G) (hk : k < 6) (hT : RT G σ k T) (hl : T.length ≤ 455) {t : Nat} {e : List Nat} (he : T[t]? = some e) (h3 : ∀ d, d ∈ e → d ≤ 3) : f_X11_degreeOf σ (i32 (k + 1)) (i32 t) = some (sD G e) := by
  have hn := hG.2.1
  have ht : t < T.length := (List.getElem?_eq_some_iff.mp he).1
  rw [sD_eq hG]
  unfold f_X11_degreeOf
  refine loop_at (fun p => (i32 (fo (· + ·) 0 (fun p => e.getD p 0) p), i32 (p + 1))) 0 (2 * gn G) rfl (Nat.zero_le _) (fun p _ hp => ?_) ?_
  · show l_X11_degreeOf_5 σ (i32 (k + 1)) (i32 t) _ (i32 (p + 1)) = _
    unfold l_X11_degreeOf_5
    have q := r_get hG hT he h3 hp
    rw [e_n h, e_bs, i32_2, i32_mul, if_neg (i_nlt (by omega) (by omega)), r_tAt, e_bs, i32_add, e_gL ln_312 (by omega) (by omega), show 9100 * k + 13 * t + (p + 1) = 9100 * k + 13 * t + 1 + p by omega, q.1, oi32 (by omega), e_bd, i32_add, i32_1, i32_add]
    rfl
  · show l_X11_degreeOf_5 σ (i32 (k + 1)) (i32 t) _ (i32 (2 * gn G + 1)) = _
    unfold l_X11_degreeOf_5
    rw [e_n h, e_bs, i32_2, i32_mul, if_pos (i_lt (by omega) (by omega))]
theorem r_weightT (h : MG σ G) (hG : GOK G) (hk : k < 6) (hT : RT G σ k T) (hl : T.length ≤ 455) {t : Nat} {e : List Nat} (he : T[t]? = some e) (h3 : ∀ d, d ∈ e → d ≤ 3) : f_X11_weightOfTerm σ (i32 (k + 1)) (i32 t) = some (sW G e) := by
  have hn := hG.2.1
  have ht : t < T.length := (List.getElem?_eq_some_iff.mp he).1
  rw [sW_eq hG]
  unfold f_X11_weightOfTerm
  refine loop_at (fun p => (i32 (fo (· + ·) 0 (fun p => e.getD p 0 * gw G (p % gn G)) p), i32 (p + 1))) 0 (2 * gn G) rfl (Nat.zero_le _) (fun p _ hp => ?_) ?_
  · show l_X11_weightOfTerm_5 σ (i32 (k + 1)) (i32 t) _ (i32 (p + 1)) = _
    unfold l_X11_weightOfTerm_5
    have q := r_get hG hT he h3 hp
    have hp1 : i32 (p + 1) - 1 = i32 p := i32_sub (a := p + 1) (b := 1) (by omega)
    rw [e_n h, e_bs, i32_2, i32_mul, if_neg (i_nlt (by omega) (by omega)), hp1, r_weightOf h hG hp, e_bs, r_tAt, e_bs, i32_add, e_gL ln_312 (by omega) (by omega), show 9100 * k + 13 * t + (p + 1) = 9100 * k + 13 * t + 1 + p by omega, q.1, oi32 (by omega), e_bd, i32_mul, i32_add, i32_1, i32_add, Nat.mul_comm]
    rfl
  · show l_X11_weightOfTerm_5 σ (i32 (k + 1)) (i32 t) _ (i32 (2 * gn G + 1)) = _
    unfold l_X11_weightOfTerm_5
    rw [e_n h, e_bs, i32_2, i32_mul, if_pos (i_lt (by omega) (by omega))]
theorem oi_le0 {d : Nat} (h : d ≤ 3) : oi (d : Int) ≤ 0 ↔ d = 0 := by
  rw [Int64.le_iff_toInt_le, oi_toInt (by omega) (by omega)]
  have : (0 : Int64).toInt = 0 := by decide
  omega
theorem r_inBoth (h : MG σ G) (hG : GOK G) (hk : k < 6) (hT : RT G σ k T) (hl : T.length ≤ 455) {t : Nat} {e : List Nat} (he : T[t]? = some e) (h3 : ∀ d, d ∈ e → d ≤ 3) : f_X11_isInBoth σ (i32 (k + 1)) (i32 t) = some (hb G e) := by
  have hn := hG.2.1
  have ht : t < T.length := (List.getElem?_eq_some_iff.mp he).1
  unfold f_X11_isInBoth
  have hl' := loop_inv (body := fun (z1 : Int32) => l_X11_isInBoth_2 σ (i32 (k + 1)) (i32 t) z1) (fun n z => ∃ i, i ≤ gn G ∧ n = gn G - i ∧ z = i32 (i + 1) ∧ ∀ p, p < i → e.getD p 0 = 0 ∨ e.getD (gn G + p) 0 = 0) (fun b => b = true ↔ HB G e) ?_ (gn G) 1 ⟨0, by omega, rfl, rfl, fun p hp => absurd hp (Nat.not_lt_zero _)⟩
  · obtain ⟨b, e1, h1⟩ := hl'
    rw [show (fun (z1 : Int32) => l_X11_isInBoth_2 σ (i32 (k + 1)) (i32 t) z1) = fun z1 => l_X11_isInBoth_2 σ (i32 (k + 1)) (i32 t) z1 from rfl, e1, bool_iff h1 hb_iff]
  · rintro n z ⟨i, hi, rfl, rfl, hv⟩
    by_cases hin : i = gn G
    · right
      subst hin
      refine ⟨false, ?_, ⟨fun z => absurd z (by decide), fun ⟨p, hp, h1, h2⟩ => ?_⟩⟩
      · show l_X11_isInBoth_2 σ _ _ (i32 (gn G + 1)) = _
        unfold l_X11_isInBoth_2
        rw [e_n h, e_bs, if_pos (i_lt (by omega) (by omega))]
      · rcases hv p hp with h4 | h4
        · exact absurd h4 h1
        · exact absurd h4 h2
    · have hi' : i < gn G := by omega
      have q1 := r_get hG hT he h3 (show i < 2 * gn G by omega)
      have q2 := r_get hG hT he h3 (show gn G + i < 2 * gn G by omega)
      have j53 : j_X11_isInBoth_53 (i32 (i + 1)) = some (Sum.inl (i32 (i + 1 + 1))) := by
        unfold j_X11_isInBoth_53
        rw [i32_1, i32_add]
      have hstart : ∀ {y}, ((if oi (e.getD i 0 : Int) ≤ 0 then (some (Sum.inl ())) else (if oi (e.getD (gn G + i) 0 : Int) ≤ 0 then (some (Sum.inl ())) else (some (Sum.inr (Sum.inr true)))) : Option (Unit ⊕ (Int32 ⊕ Bool))).bind (Sum.elim (fun (z4 : Unit) => j_X11_isInBoth_53 (i32 (i + 1))) some)) = y → l_X11_isInBoth_2 σ (i32 (k + 1)) (i32 t) (i32 (i + 1)) = y := by
        intro y hy
        unfold l_X11_isInBoth_2
        rw [e_n h, e_bs, if_neg (i_nlt (by omega) (by omega)), r_tAt, e_bs, i32_add, e_gL ln_312 (by omega) (by omega), show 9100 * k + 13 * t + (i + 1) = 9100 * k + 13 * t + 1 + i by omega, q1.1, e_bs, e_bs, i32_add, i32_add, e_gL ln_312 (by omega) (by omega), show 9100 * k + 13 * t + gn G + (i + 1) = 9100 * k + 13 * t + 1 + (gn G + i) by omega, q2.1]
        exact hy
      have again : (∀ p, p < i + 1 → e.getD p 0 = 0 ∨ e.getD (gn G + p) 0 = 0) → l_X11_isInBoth_2 σ (i32 (k + 1)) (i32 t) (i32 (i + 1)) = some (Sum.inl (i32 (i + 1 + 1))) → ∃ s' n', n' < gn G - i ∧ (fun (z1 : Int32) => l_X11_isInBoth_2 σ (i32 (k + 1)) (i32 t) z1) (i32 (i + 1)) = some (Sum.inl s') ∧ ∃ i, i ≤ gn G ∧ n' = gn G - i ∧ s' = i32 (i + 1) ∧ ∀ p, p < i → e.getD p 0 = 0 ∨ e.getD (gn G + p) 0 = 0 := fun h1 h2 => ⟨i32 (i + 1 + 1), gn G - (i + 1), by omega, h2, i + 1, by omega, rfl, rfl, h1⟩
      by_cases h1 : e.getD i 0 = 0
      · left
        refine again (fun p hp => ?_) ?_
        · by_cases h2 : p = i
          · rw [h2]; exact Or.inl h1
          · exact hv p (by omega)
        · refine hstart ?_
          rw [if_pos ((oi_le0 q1.2).mpr h1), e_bs]
          exact j53
      · by_cases h2 : e.getD (gn G + i) 0 = 0
        · left
          refine again (fun p hp => ?_) ?_
          · by_cases h4 : p = i
            · rw [h4]; exact Or.inr h2
            · exact hv p (by omega)
          · refine hstart ?_
            rw [if_neg (fun z => h1 ((oi_le0 q1.2).mp z)), if_pos ((oi_le0 q2.2).mpr h2), e_bs]
            exact j53
        · right
          refine ⟨true, ?_, ⟨fun _ => ⟨i, hi', h1, h2⟩, fun _ => rfl⟩⟩
          show l_X11_isInBoth_2 σ _ _ (i32 (i + 1)) = _
          refine hstart ?_
          rw [if_neg (fun z => h1 ((oi_le0 q1.2).mp z)), if_neg (fun z => h2 ((oi_le0 q2.2).mp z)), e_bs]
          rfl
end RS
/-! the shape, told by both -/
section SO
theorem ok_26 : Ok_26 II := by
  intro c σ x w hc ⟨S, ok, h, hr⟩
  have f0 : SR σ (wI σ 306 0 0) := SR.fld (by omega)
  have hG : GOK (aG S) := ok.1.1
  have hn : gn (aG S) ≤ 6 := hG.2.1
  obtain ⟨b, hb', hB⟩ := c_cons h
  obtain ⟨b2, τ, e, hr2, lo, hB2, hl⟩ := r_isPoly (hr.sr f0) ok (x := x)
  have : b2 = b := bool_iff hB2 hB
  subst this
  have hn0 : σ.1 2 0 = i32 (gn (aG S)) := h.1.1.1
  have fin : II (c + 1) τ := fin_q ok h hr2 (f0.lo.trans lo)
  unfold f_X10_shape f_X11_shape
  rw [c_hasPoly hn0 hn hb', e_bs, e_pF, e, e_bq]
  cases hx : isGen (gn (aG S)) x with
  | false => exact ⟨_, _, rfl, rfl, fin⟩
  | true =>
    cases b2 with
    | false => exact ⟨_, _, rfl, rfl, fin⟩
    | true =>
      have hcons := hB.mp rfl
      obtain ⟨k, hk, rfl, hk1⟩ := isGen_idx hx
      have hct := c_ct h hcons k (by omega)
      rw [if_pos hk] at hct
      have hrt := r_rt (hl hx).2 hcons hk hn
      have hlen := Tk_len hG hk
      have h3 : ∀ e, e ∈ Tk (aG S) k → ∀ d, d ∈ e → d ≤ 3 := fun e he => pts_le3 hG (hG.2.2.1 k hk).2 (List.mem_filter.mp he).1
      have hM := hr2.1.mg
      have ew := r_in (σ := τ) (x := w) (l := 0) (u := 3) ⟨by omega, by omega⟩ ⟨by omega, by omega⟩
      -- the reference's loop, by what is asked
      have rl : ∀ op : Int32 → List Nat → Int32, (∀ t e a, (Tk (aG S) k)[t]? = some e → t < (Tk (aG S) k).length → l_X11_shape_35 (i32 (k + 1)) w τ a (i32 t) = some (Sum.inl (op a e, i32 (t + 1)))) → loopO (fun (z6 : (Int32 × Int32)) => l_X11_shape_35 (i32 (k + 1)) w τ z6.1 z6.2) (0, 0) = some (fld op (Tk (aG S) k), τ) := fun op hop => by
        refine loop_list (T := Tk (aG S) k) (op := op) hop ?_
        show l_X11_shape_35 (i32 (k + 1)) w τ _ (i32 (Tk (aG S) k).length) = _
        unfold l_X11_shape_35
        rw [hk1, e_gI ln_311 (by omega) (by omega), hrt.1, if_pos (i_le (Nat.le_refl _) (by omega))]
      have start : ∀ {t : Nat} {a : Int32} {y}, t < (Tk (aG S) k).length → ((if w = 0 then ((f_X11_degreeOf τ (i32 (k + 1)) (i32 t)).bind (fun (v19 : Int32) => (f_J9_max_7cf53 τ a v19).bind (fun (v20 : Int32) => some v20))) else (some a) : Option Int32).bind (fun (z8 : Int32) => j_X11_shape_64 (i32 (k + 1)) w τ (i32 t) z8)) = y → l_X11_shape_35 (i32 (k + 1)) w τ a (i32 t) = y := by
        intro t a y ht hy
        unfold l_X11_shape_35
        rw [hk1, e_gI ln_311 (by omega) (by omega), hrt.1, if_neg (i_nle ht (by omega))]
        exact hy
      have last : ∀ {t : Nat} {a : Int32}, j_X11_shape_121 (i32 t) a = some (Sum.inl (a, i32 (t + 1))) := fun {t a} => by
        unfold j_X11_shape_121
        rw [i32_1, i32_add]
      rw [Bool.and_self, if_pos rfl, if_pos rfl, hk1, e_gR ln_44 (by omega) (by omega), rf_44 (by omega), show (0 : Int64) = oi 0 from rfl, show (3 : Int64) = oi 3 from rfl, ew, e_bs]
      by_cases w0 : w = 0
      · subst w0
        rw [if_pos rfl, c_shape0 hG (by omega) hct hlen h3, e_bs]
        refine ⟨_, τ, rfl, ?_, fin⟩
        rw [if_pos (by decide)]
        refine rl _ (fun t e a he ht => start ht ?_)
        rw [if_pos rfl, r_degreeOf hM hG (by omega) hrt hlen he (h3 e (List.mem_of_getElem? he)), e_bs, e_max, e_bs, e_bs]
        unfold j_X11_shape_64
        rw [if_neg (by decide), e_bs]
        unfold j_X11_shape_81
        rw [if_neg (by decide), e_bs]
        unfold j_X11_shape_100
        rw [if_neg (by decide), e_bs, last]
      · rw [if_neg w0]
        by_cases w1 : w = 1
        · subst w1
          rw [if_pos rfl, c_shape1 hG h.1.1 (by omega) hct hlen h3, e_bs]
          refine ⟨_, τ, rfl, ?_, fin⟩
          rw [if_pos (by decide)]
          refine rl _ (fun t e a he ht => start ht ?_)
          rw [if_neg (by decide), e_bs]
          unfold j_X11_shape_64
          rw [if_pos rfl, r_weightT hM hG (by omega) hrt hlen he (h3 e (List.mem_of_getElem? he)), e_bs, e_max, e_bs, e_bs]
          unfold j_X11_shape_81
          rw [if_neg (by decide), e_bs]
          unfold j_X11_shape_100
          rw [if_neg (by decide), e_bs, last]
        · rw [if_neg w1]
          by_cases w2 : w = 2
          · subst w2
            rw [if_pos rfl, c_shape2 hG (by omega) hct hlen h3, e_bs]
            refine ⟨_, τ, rfl, ?_, fin⟩
            rw [if_pos (by decide)]
            refine rl _ (fun t e a he ht => start ht ?_)
            rw [if_neg (by decide), e_bs]
            unfold j_X11_shape_64
            rw [if_neg (by decide), e_bs]
            unfold j_X11_shape_81
            rw [if_pos rfl, r_inBoth hM hG (by omega) hrt hlen he (h3 e (List.mem_of_getElem? he)), e_bs]
            cases hb (aG S) e
            · rw [if_neg (by decide), e_bs]
              unfold j_X11_shape_100
              rw [if_neg (by decide), e_bs, last, show a + b2i false = a from Int32.add_zero a]
            · rw [if_pos rfl, e_bd, e_bs]
              unfold j_X11_shape_100
              rw [if_neg (by decide), e_bs, last]
              rfl
          · rw [if_neg w2]
            by_cases w3 : w = 3
            · subst w3
              obtain ⟨s, e1, hs⟩ := c_shape3 (σ := σ) (G := aG S) (show k < 6 by omega) hct hlen
              rw [if_pos rfl, e1, e_bs]
              refine ⟨_, τ, rfl, ?_, fin⟩
              rw [if_pos (by decide), hs]
              refine rl _ (fun t e a he ht => start ht ?_)
              rw [if_neg (by decide), e_bs]
              unfold j_X11_shape_64
              rw [if_neg (by decide), e_bs]
              unfold j_X11_shape_81
              rw [if_neg (by decide), e_bs]
              unfold j_X11_shape_100
              rw [if_pos rfl, r_tAt, e_bs, e_gL ln_312 (by omega) (by omega), (hrt.2 t e he).2.1, e_bd, e_bs, last]
            · rw [if_neg w3]
              refine ⟨-10000, τ, rfl, ?_, fin⟩
              rw [decide_eq_false, if_neg (by decide)]
              rintro ⟨z1, z2⟩
              have hz := i32_of z1
              rcases (show w.toInt.toNat = 0 ∨ w.toInt.toNat = 1 ∨ w.toInt.toNat = 2 ∨ w.toInt.toNat = 3 by omega) with q | q | q | q
              · rw [q] at hz; exact w0 hz
              · rw [q] at hz; exact w1 hz
              · rw [q] at hz; exact w2 hz
              · rw [q] at hz; exact w3 hz
end SO
end SH
