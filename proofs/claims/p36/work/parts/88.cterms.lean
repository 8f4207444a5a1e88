/-! the class's terms: kept, valued -/
section CT2
variable {G : GD} {σ : Mem}
theorem rfk {k : Nat} (h : k < 6) : rf (48 + 4 * k) 1 = 49 + 4 * k ∧ rf (48 + 4 * k) 2 = 50 + 4 * k ∧ rf (48 + 4 * k) 3 = 51 + 4 * k ∧ ln (49 + 4 * k) = 455 ∧ ln (50 + 4 * k) = 455 ∧ ln (51 + 4 * k) = 455 := by
  have h1 : (List.range 6).all (fun k => rf (48 + 4 * k) 1 == 49 + 4 * k && (rf (48 + 4 * k) 2 == 50 + 4 * k && (rf (48 + 4 * k) 3 == 51 + 4 * k && (ln (49 + 4 * k) == 455 && (ln (50 + 4 * k) == 455 && ln (51 + 4 * k) == 455))))) = true := by decide +kernel
  have h2 := List.all_eq_true.mp h1 k (List.mem_range.mpr h)
  simp only [Bool.and_eq_true, beq_iff_eq] at h2
  exact h2
/-- the class holds these terms of k -/
def CT (G : GD) (σ : Mem) (k : Nat) (T : List (List Nat)) : Prop := σ.1 (48 + 4 * k) 0 = i32 T.length ∧ ∀ (t : Nat) (e : List Nat), T[t]? = some e → σ.1 (49 + 4 * k) t = i32 (ky (dg G e) 12) ∧ σ.2 (50 + 4 * k) t = oi (cf G k e) ∧ σ.1 (51 + 4 * k) t = i32 (pl (dg G e) 12)
/-- the rows of the polynomial of k alone -/
def FS (k : Nat) (σ τ : Mem) : Prop := (∀ x, x ≠ 48 + 4 * k → x ≠ 49 + 4 * k → x ≠ 51 + 4 * k → τ.1 x = σ.1 x) ∧ ∀ x, x ≠ 50 + 4 * k → τ.2 x = σ.2 x
theorem dg_le {e : List Nat} {B : Nat} (h : ∀ d, d ∈ e → d ≤ B) (v : Nat) : dg G e v ≤ B := by
  have hb : ∀ p, e.getD p 0 ≤ B := fun p => by
    rw [List.getD_eq_getElem?_getD]
    by_cases hp : p < e.length
    · rw [List.getElem?_eq_getElem hp]
      exact h _ (List.getElem_mem hp)
    · rw [List.getElem?_eq_none (by omega)]
      exact Nat.zero_le B
  unfold dg
  split
  · split
    · exact hb _
    · exact Nat.zero_le _
  · split
    · exact hb _
    · exact Nat.zero_le _
theorem pts_le3 (hG : GOK G) {L : Nat} (hL : L ≤ 3) {e : List Nat} (he : e ∈ pts (wl G) L) : ∀ d, d ∈ e → d ≤ 3 := fun d hd => by
  have h1 := (pts_mem _ _ _ (wl_pos hG)).mp he
  have := wt_deg (wl G) e (wl_pos hG) h1.1 d hd
  omega
theorem c_append {k : Nat} (hG : GOK G) (hk : k < 6) {T : List (List Nat)} (hT : CT G σ k T) (hl : T.length < 455) {L : Nat} (hL : L ≤ 3) {e : List Nat} (he : e ∈ pts (wl G) L) :
    ∃ τ, f_X9_append σ (48 + 4 * k) (i32 (ky (dg G e) 12)) (oi (cf G k e)) = some τ ∧ FS k σ τ ∧ CT G τ k (T ++ [e]) := by
  obtain ⟨r1, r2, r3, l1, l2, l3⟩ := rfk hk
  unfold f_X9_append
  have n1 : ¬ (455 : Int32) ≤ i32 T.length := by rw [show (455 : Int32) = i32 455 from rfl]; exact i_nle hl (by omega)
  have hd := fun u (_ : u < 12) => dg_le (G := G) (pts_le3 hG hL he) u
  have hz := Nat.le_trans (nzc_le hG he) hL
  rw [e_gF, hT.1, if_neg n1, e_gF, hT.1, r1, e_pI l1 hl (by omega), e_gF, wI_1, if_neg (by omega), hT.1, r2, e_pL l2 hl (by omega), e_gF, wL_1, wI_1, if_neg (by omega), hT.1, c_placesOf hd hz, e_bs, r3, e_pI l3 hl (by omega), e_gF, wI_1, if_neg (by omega), wL_1, wI_1, if_neg (by omega), hT.1, i32_1, i32_add, e_pF]
  refine ⟨_, rfl, ⟨fun x h1 h2 h3 => ?_, fun x hx => ?_⟩, ?_, fun t r hr => ?_⟩
  · funext y
    rw [wI_1, if_neg (fun z => h1 z.1), wI_1, if_neg (fun z => h3 z.1), wL_1, wI_1, if_neg (fun z => h2 z.1)]
  · funext y
    rw [wI_2, wI_2, wL_2, if_neg (fun z => hx z.1), wI_2]
  · rw [wI_1, if_pos ⟨rfl, rfl⟩, List.length_append]; rfl
  · by_cases h5 : t < T.length
    · rw [List.getElem?_append_left h5] at hr
      have := hT.2 t r hr
      refine ⟨?_, ?_, ?_⟩
      · rw [wI_1, if_neg (by omega), wI_1, if_neg (by omega), wL_1, wI_1, if_neg (by omega)]; exact this.1
      · rw [wI_2, wI_2, wL_2, if_neg (by omega), wI_2]; exact this.2.1
      · rw [wI_1, if_neg (by omega), wI_1, if_neg (by omega), wL_1, wI_1, if_neg (by omega)]; exact this.2.2
    · rw [List.getElem?_append_right (by omega)] at hr
      by_cases h6 : t = T.length
      · subst h6
        rw [Nat.sub_self] at hr
        cases hr
        refine ⟨?_, ?_, ?_⟩
        · rw [wI_1, if_neg (by omega), wI_1, if_neg (by omega), wL_1, wI_1, if_pos ⟨rfl, rfl⟩]
        · rw [wI_2, wI_2, wL_2, if_pos ⟨rfl, rfl⟩]
        · rw [wI_1, if_neg (by omega), wI_1, if_pos ⟨rfl, rfl⟩]
      · rw [List.getElem?_eq_none (by simp only [List.length_cons, List.length_nil]; omega)] at hr
        cases hr
/-- a table is good for a term -/
def TabOK (G : GD) (τ : Mem) (t : Nat) (x : Nat → Int) (e : List Nat) : Prop := τ.2 t 0 = oi 1 ∧ ∀ v, v < 12 → dg G e v ≠ 0 → τ.2 t (4 * v + dg G e v) = oi (bn (dg G e v) (x v))
theorem c_valueT (hG : GOK G) {k t : Nat} (hk : k < 6) {τ : Mem} {x : Nat → Int} {T : List (List Nat)} (hT : CT G τ k T) (hl : T.length ≤ 455) (ht : ln t = 64) {L : Nat} (hL : L ≤ 3) (hm : ∀ e, e ∈ T → e ∈ pts (wl G) L) (hx : ∀ e, e ∈ T → TabOK G τ t x e) :
    f_X9_value τ (48 + 4 * k) t = some (oi (lsm (fun e => cf G k e * Bn e (xl G x)) T)) := by
  obtain ⟨r1, r2, r3, l1, l2, l3⟩ := rfk hk
  unfold f_X9_value
  refine loop_at (fun q => (oi (lsm (fun e => cf G k e * Bn e (xl G x)) (T.take q)), i32 q)) 0 T.length (by rw [List.take_zero]; rfl) (Nat.zero_le _) (fun q _ hq => ?_) ?_
  · show l_X9_value_5 τ (48 + 4 * k) t _ (i32 q) = _
    unfold l_X9_value_5
    have hg := List.getElem?_eq_getElem hq
    have hmem := List.getElem_mem hq
    rw [List.take_succ_eq_append_getElem hq, lsm_app]
    generalize T[q] = e at hg hmem
    have he := hT.2 q e hg
    have hp := hm e hmem
    have hp' := (pts_mem _ _ _ (wl_pos hG)).mp hp
    have hz := Nat.le_trans (nzc_le hG hp) hL
    have hd := fun u (_ : u < 12) => dg_le (G := G) (pts_le3 hG hL hp) u
    have hpl := pl_lt (d := dg G e) 12 (Nat.le_refl _) hd
    have hpl2 : pl (dg G e) 12 < 64 ^ 3 := Nat.lt_of_lt_of_le hpl (Nat.pow_le_pow_right (by omega) hz)
    have hT3 := T3_pl (tab := fun y => τ.2 t y) (d := dg G e) (x := x) (hx e hmem).1 hd (hx e hmem).2 12 (Nat.le_refl _) hz
    rw [val12 hG (by rw [hp'.1, wl_len])] at hT3
    rw [e_gF, hT.1, if_neg (i_nle hq (by omega)), r3, e_gI l3 (by omega) (by omega), he.2.2, r2, e_gL l2 (by omega) (by omega), he.2.1, i_f0, e_gL ht (by omega) (by omega), i_f1 (by omega), e_gL ht (by omega) (by omega), i_f2 (by omega), e_gL ht (by omega) (by omega), e_bd, i32_1, i32_add]
    have e9 : oi (cf G k e) * τ.2 t (pl (dg G e) 12 % 64) * τ.2 t (pl (dg G e) 12 / 64 % 64) * τ.2 t (pl (dg G e) 12 / 4096 % 64) = oi (cf G k e * Bn e (xl G x)) := by
      rw [← oi_mul, ← hT3]
      unfold T3
      simp only [Int64.mul_assoc]
    rw [e9, oi_add]
    congr 4
    show _ = _ + (cf G k e * Bn e (xl G x) + 0)
    rw [Int.add_zero]
  · show l_X9_value_5 τ (48 + 4 * k) t _ (i32 T.length) = _
    unfold l_X9_value_5
    rw [e_gF, hT.1, if_pos (i_le (Nat.le_refl _) (by omega)), List.take_length]
/-- what is 0 as a long is not wanted -/
theorem lsm_filter {k : Nat} {g : List Nat → Int} : ∀ L : List (List Nat), oi (lsm (fun e => cf G k e * g e) (L.filter (okT G k))) = oi (lsm (fun e => cf G k e * g e) L) := by
  intro L
  induction L with
  | nil => rfl
  | cons e L ih =>
    show _ = oi (cf G k e * g e + lsm (fun e => cf G k e * g e) L)
    rw [List.filter_cons]
    by_cases h : oi (cf G k e) = 0
    · have hok : okT G k e = false := by unfold okT; rw [h]; rfl
      rw [hok, if_neg (by decide), ih, ← oi_add, ← oi_mul, h, Int64.zero_mul, Int64.zero_add]
    · have hok : okT G k e = true := decide_eq_true h
      rw [hok, if_pos rfl]
      show oi (cf G k e * g e + lsm _ (L.filter (okT G k))) = _
      rw [← oi_add, ih, oi_add]
theorem dg_wt (hG : GOK G) {L : Nat} {e : List Nat} (he : e ∈ pts (wl G) L) {v : Nat} (hv : v < 12) : dg G e v * gw G (v % 6) ≤ L := by
  have h1 := (pts_mem _ _ _ (wl_pos hG)).mp he
  have hn := hG.2.1
  have hp : ∀ p, p < 2 * gn G → e.getD p 0 * gw G (p % gn G) ≤ L := fun p hp => by
    have h2 := wt_get (wl G) e p h1.1
    have h3 : (wl G).getD p 0 = gw G (p % gn G) := by
      unfold wl
      rw [lst_getD hp, Nat.zero_add]
    rw [h3] at h2
    omega
  unfold dg
  by_cases h2 : v < 6
  · rw [if_pos h2, Nat.mod_eq_of_lt h2]
    by_cases h3 : v < gn G
    · rw [if_pos h3]
      have := hp v (by omega)
      rwa [Nat.mod_eq_of_lt h3] at this
    · rw [if_neg h3, Nat.zero_mul]; exact Nat.zero_le _
  · rw [if_neg h2, show v % 6 = v - 6 by omega]
    by_cases h3 : v - 6 < gn G
    · rw [if_pos h3]
      have := hp (gn G + (v - 6)) (by omega)
      rwa [Nat.add_mod_left, Nat.mod_eq_of_lt h3] at this
    · rw [if_neg h3, Nat.zero_mul]; exact Nat.zero_le _
theorem dg_good {k : Nat} {e : List Nat} (h : good G k e) {v : Nat} (hv : v < 12) (hd : dg G e v ≠ 0) : v % 6 ≤ k ∧ v % 6 < gn G := by
  unfold dg at hd
  by_cases h2 : v < 6
  · rw [if_pos h2] at hd
    by_cases h3 : v < gn G
    · rw [if_pos h3] at hd
      have := h.2.2 v hd
      rw [Nat.mod_eq_of_lt h3] at this
      omega
    · rw [if_neg h3] at hd; exact absurd rfl hd
  · rw [if_neg h2] at hd
    by_cases h3 : v - 6 < gn G
    · rw [if_pos h3] at hd
      have := h.2.2 _ hd
      rw [Nat.add_mod_left, Nat.mod_eq_of_lt h3] at this
      omega
    · rw [if_neg h3] at hd; exact absurd rfl hd
/-- the table's entries are those of a term that counts -/
theorem tab_ok (hG : GOK G) {k t : Nat} {τ : Mem} {x : Nat → Int} (hk : k < gn G) (hT : TbU G τ t x (fun v => v % 6 ≤ k)) {e : List Nat} (he : e ∈ Tk G k) : TabOK G τ t x e := by
  have hw := (hG.2.2.1 k hk).2
  obtain ⟨hp, hok⟩ := List.mem_filter.mp he
  have hne : cf G k e ≠ 0 := fun z => by
    unfold okT at hok
    rw [z] at hok
    exact absurd hok (by decide)
  have hg := (cf_ok hG hk).1 e hne
  refine ⟨(hT 0 (by omega) (by show 0 % 6 ≤ k; omega)).1, fun v hv hd => ?_⟩
  have h1 := dg_good hg hv hd
  have h2 := hT v hv h1.1
  have h3 : dg G e v ≤ 2 := dg_le (G := G) hg.2.1 v
  rcases (show dg G e v = 1 ∨ dg G e v = 2 by omega) with h4 | h4
  · rw [h4]; exact h2.2.1
  · have h5 := dg_wt hG hp hv
    rw [h4] at h5 ⊢
    have h6 := (hG.2.2.1 _ h1.2).1
    exact h2.2.2 (by omega)
/-- the class's terms tell the product -/
def CPoly (G : GD) (σ : Mem) : Prop := ∀ k, k < 6 → CT G σ k (if k < gn G then Tk G k else [])
theorem CPoly.ok (hG : GOK G) (h : CPoly G σ) : PolyOK G σ := by
  intro k hk τ t x h1 h2 h3 h4 ht hT
  have hct := h k hk
  by_cases hkn : k < gn G
  · rw [if_pos hkn] at hct ⊢
    have hw := hG.2.2.1 k hkn
    have hct' : CT G τ k (Tk G k) := by
      unfold CT
      rw [h1, h2, h3, h4]
      exact hct
    have hl := Tk_len hG hkn
    rw [c_valueT hG hk hct' hl ht hw.2 (fun e he => (List.mem_filter.mp he).1) (fun e he => tab_ok hG hkn hT he)]
    congr 1
    unfold Tk
    rw [lsm_filter, ← psum_lsm, ← (cf_ok hG hkn).2 (xl G x) (by rw [xl_len, wl_len])]
    unfold Fk
    congr 1
    have hn := hG.2.1
    refine mul_congr (fun i hi => ?_) (fun i hi => ?_) hkn
    · rw [xl_get (by omega)]; unfold vp; rw [if_pos hi]
    · rw [xl_get (by omega)]; unfold vp; rw [if_neg (by omega), show gn G + i - gn G = i by omega]
  · rw [if_neg hkn] at hct ⊢
    unfold f_X9_value
    rw [loopO_eq]
    show (l_X9_value_5 τ (48 + 4 * k) t 0 0).bind _ = _
    unfold l_X9_value_5
    rw [e_gF, h1, hct.1, if_pos (show i32 ([] : List (List Nat)).length ≤ 0 by decide)]
    rfl
end CT2

