section
/-! seek: the call -/
section SEK
variable {σ : Mem} {G : GD}
theorem gap_low (hG : GOK G) {A Y u w : Nat → Int} : gapv G A Y 0 u = gapv G A Y 0 w := gap_local hG (fun i hi => absurd hi (Nat.not_lt_zero i))
theorem Bx_0 {b : Int} {w : Nat → Int} (h : Bx b 0 w) : w = O := funext (fun i => h.2 i (Nat.zero_le _))
theorem CU.ol {u : Nat → Int} {P : Nat → Prop} {τ : Mem} {p : Nat → Prop} (h : CU G σ u p) (o : OL P σ τ) (h1 : ¬ P 100) (h2 : ¬ P 103) : CU G τ u p := by
  obtain ⟨a, x, hx, hT⟩ := h
  exact ⟨fun i hi hp => by rw [o.2 103 h2]; exact a i hi hp, x, hx, TbU.keep hT o h1⟩
theorem c_findWithin {A Y : Nat → Int} {b f : Nat} (hG : GOK G) (hb : 1 ≤ b ∧ b ≤ 3) (hf : f ≤ 5) (hfn : f < gn G) (hg : GapOK G σ A Y) (h : CU G σ O (fun _ => True)) (hc : ∀ k, k < (if f = 0 then 6 else 1) → oi (gapv G A Y k O) = 0) : ∃ r τ, f_X7_findWithin σ (i32 b) (i32 f) = some (r, τ) ∧ OL (fun x => x = 100 ∨ x = 103) σ τ ∧ ((r = true ∧ ∃ u, Fst G A Y b f u ∧ CU G τ u (fun _ => True)) ∨ (r = false ∧ ∀ w, Bx b f w → ¬ Kx G A Y w)) := by
  unfold f_X7_findWithin
  by_cases hf0 : f = 0
  · subst hf0
    rw [if_pos (show i32 0 = 0 from rfl), e_bs]
    unfold j_X7_findWithin_15
    obtain ⟨τ, e, o, c⟩ := c_setU (i := 0) (y := 0) (by omega) (fun _ => by unfold two64ok; omega) h
    have c' : CU G τ O (fun _ => True) := c.congr (fun v _ => by
      unfold uV
      by_cases hv : v = 0
      · rw [if_pos hv]; rfl
      · rw [if_neg hv]) (fun _ _ _ => Or.inl trivial)
    have e' : f_X7_setU σ 0 0 = some τ := e
    have hl : loopO (fun (z7 : (Mem × Int32 × Int32)) => l_X7_findWithin_21 (i32 b) (i32 0) z7.1 z7.2.1 z7.2.2) (τ, 0, 0) = some (Sum.inl (τ, 0)) := by
      refine loop_up (body := fun (z7 : (Mem × Int32 × Int32)) => l_X7_findWithin_21 (i32 b) (i32 0) z7.1 z7.2.1 z7.2.2) (fun _ => (τ, 0, 0)) 0 0 _ (Nat.le_refl _) (fun k _ hk => by omega) ?_
      show l_X7_findWithin_21 (i32 b) (i32 0) τ 0 0 = _
      unfold l_X7_findWithin_21
      rw [if_neg (by decide), if_pos (show i32 0 ≤ 0 by decide)]
    rw [e', e_bs, hl, e_bs]
    show ∃ r τ', j_X7_findWithin_133 (i32 0) τ 0 = some (r, τ') ∧ _
    unfold j_X7_findWithin_133
    rw [if_neg (show ¬ (0 : Int32) < i32 0 by decide)]
    rw [if_pos rfl] at hc
    exact ⟨true, τ, rfl, o, Or.inl ⟨rfl, O, ⟨⟨fun i hi => absurd hi (Nat.not_lt_zero i), fun _ _ => rfl⟩, fun k hk => hc k hk, fun w _ _ ⟨j, hj, _⟩ => absurd hj (Nat.not_lt_zero j)⟩, c'⟩⟩
  · rw [if_neg (i_ne0 hf0 (by omega)), e_bs]
    rw [if_neg hf0] at hc
    unfold j_X7_findWithin_15
    obtain ⟨τ, e, o, c⟩ := c_setU (i := 0) (y := -(b : Int)) (by omega) (fun _ => by unfold two64ok; omega) h
    have c' : CU G τ (uV O 0 (-(b : Int))) (fun _ => True) := c.congr (fun _ _ => rfl) (fun _ _ _ => Or.inl trivial)
    have e' : f_X7_setU σ 0 (oi (-(b : Int))) = some τ := e
    have hg' : GapOK G τ A Y := hg.eqs (fun x h1 h2 => ⟨by rw [o.1], o.2 x (by omega)⟩)
    obtain ⟨r, e2, τ2, o2, hr⟩ := c_findLoopU hG hb ⟨by omega, hf⟩ hfn hg' c' (by
      refine ⟨fun p hp => absurd hp (Nat.not_lt_zero _), fun _ => by rw [uV_self]; omega, fun p hp => ?_, fun p hp => by rw [uV_ne (by omega)]; rfl, fun k h1 h2 => ?_, fun w hw _ ⟨j, hj, hjf, _, h2⟩ => ?_⟩
      · by_cases hp0 : p = 0
        · rw [hp0, uV_self]; omega
        · rw [uV_ne hp0]; exact Or.inr rfl
      · have : k = 0 := by omega
        subst this
        rw [gap_low hG (w := O)]
        exact hc 0 (by omega)
      · have : j = 0 := by omega
        subst this
        rw [uV_self] at h2
        have := (hw.1 0 (by omega)).1
        omega) uV_self
    rw [neg_b hb.2, e', e_bs, e2, e_bs]
    rcases hr with ⟨u, rfl, hu, cu⟩ | ⟨rfl, hno⟩
    · show ∃ r τ', j_X7_findWithin_133 (i32 f) τ2 (i32 f) = some (r, τ') ∧ _
      unfold j_X7_findWithin_133
      rw [if_neg (i_nlt (Nat.le_refl _) (by omega))]
      exact ⟨true, τ2, rfl, o.trans o2, Or.inl ⟨rfl, u, hu, cu⟩⟩
    · exact ⟨false, τ2, rfl, o.trans o2, Or.inr ⟨rfl, hno⟩⟩
/-- what the class's search changes -/
def FSk (out : Nat) (σ τ : Mem) : Prop := (∀ x, x < 104 ∨ 127 < x → τ.1 x = σ.1 x) ∧ ∀ x, x ≠ 100 → x ≠ 103 → x ≠ out → x < 104 ∨ 127 < x → τ.2 x = σ.2 x
theorem c_conjugator {out a y : Nat} {A Y : Nat → Int} {b : Nat} (hG : GOK G) (hP : CPoly G σ) (h41 : CG σ 41 G) (ho : ln out = 6) (ha : ln a = 6) (hy : ln y = 6) (hA : H6 σ a A) (hB : H6 σ y Y) (ha3 : a ≠ 100) (hy3 : y ≠ 100) (wA : W1 G A) (wB : W1 G Y) (hb : 1 ≤ b ∧ b ≤ 3) : ∃ r τ, f_X7_conjugator σ out a y (i32 b) = some (r, τ) ∧ FSk out σ τ ∧ ((r = true ∧ ∃ u, Fst G A Y b (fre G) u ∧ H6 τ out u) ∨ (r = false ∧ ∀ w, Bx b (fre G) w → ¬ Kx G A Y w)) := by
  have hn := hG.2.1
  have hfr := fre_lt hG
  unfold f_X7_conjugator
  obtain ⟨σ1, e1, f1, g1, t1⟩ := c_findGaps hG hP ha hy hA hB ha3 hy3 wA wB
  obtain ⟨σ2, e2, o2, c2⟩ := c_putU (σ := σ1) (G := G) (y := 0) (by unfold two64ok; omega)
  have c2' : CU G σ2 O (fun _ => True) := c2
  have g2 : GapOK G σ2 A Y := g1.eqs (fun x h1 h2 => ⟨by rw [o2.1], o2.2 x (by omega)⟩)
  have F2 : FSk out σ σ2 := ⟨fun x hx => by rw [o2.1]; exact f1.1 x hx, fun x h1 h2 _ h4 => by rw [o2.2 x (by omega)]; exact f1.2 x h1 h4⟩
  have h41' : CG σ2 41 G := by
    unfold CG
    rw [F2.1 41 (by omega), F2.1 (41 + 1) (by omega), F2.1 (41 + 2) (by omega)]
    exact h41
  have e2' : f_X7_putU σ1 0 = some σ2 := e2
  rw [e1, e_bs, e2', e_bs, c_free hG h41', e_bs]
  unfold j_X7_conjugator_74
  have em : (if i32 (fre G) = 0 then (some 6) else (some 1) : Option Int32) = some (i32 (if fre G = 0 then 6 else 1)) := by
    by_cases q : fre G = 0
    · rw [if_pos (by rw [q]; rfl), if_pos q]; rfl
    · rw [if_neg (i_ne0 q (by omega)), if_neg q]; rfl
  rw [em, e_bs]
  unfold j_X7_conjugator_87
  obtain ⟨bc, ec, hbc⟩ := c_areClosed (s := 0) (m := if fre G = 0 then 6 else 1) g2 c2' (by omega) (by split <;> omega)
  have ec' : f_X7_areClosed σ2 0 (i32 (if fre G = 0 then 6 else 1)) = some bc := ec
  rw [ec', e_bs]
  cases hbt : bc with
  | false =>
    rw [if_neg (by decide)]
    refine ⟨false, σ2, rfl, F2, Or.inr ⟨rfl, fun w hw hk => ?_⟩⟩
    have : bc = true := hbc.mpr (fun k _ hk2 => by
      by_cases q : fre G = 0
      · rw [if_pos q] at hk2
        rw [q] at hw
        rw [← Bx_0 hw]
        exact hk k hk2
      · rw [if_neg q] at hk2
        have hk0 : k = 0 := by omega
        subst hk0
        rw [gap_low hG (w := w)]
        exact hk 0 (by omega))
    rw [hbt] at this
    cases this
  | true =>
    rw [if_pos rfl]
    have hcl := hbc.mp hbt
    obtain ⟨r, τ, e3, o3, hr⟩ := c_findWithin (f := fre G) hG hb (by omega) hfr g2 c2' (fun k hk => hcl k (Nat.zero_le _) hk)
    have F3 : FSk out σ τ := ⟨fun x hx => by rw [o3.1]; exact F2.1 x hx, fun x h1 h2 h3 h4 => by rw [o3.2 x (by omega)]; exact F2.2 x h1 h2 h3 h4⟩
    rw [e3, e_bq]
    rcases hr with ⟨rfl, u, hu, cu⟩ | ⟨rfl, hno⟩
    · obtain ⟨τ2, e4, o4, r4⟩ := c_copy (σ := τ) (a := 103) (b := out) (A := u) ln_103 ho (fun k hk => cu.1 k hk trivial)
      rw [if_pos rfl, e4, e_bs]
      exact ⟨true, τ2, rfl, ⟨fun x hx => by rw [o4.1]; exact F3.1 x hx, fun x h1 h2 h3 h4 => by rw [o4.2 x h3]; exact F3.2 x h1 h2 h3 h4⟩, Or.inl ⟨rfl, u, hu, r4⟩⟩
    · rw [if_neg (by decide)]
      exact ⟨false, τ, rfl, F3, Or.inr ⟨rfl, hno⟩⟩
/-- the reference's test is the gaps' -/
theorem conj_iff (hG : GOK G) (hJ : Jac G) {A Y u : Nat → Int} (sA : SB G 999 A) (sY : SB G 999 Y) : areS G (mul G (mul G (inv G u) A) u) Y = true ↔ Kx G A Y u := by
  have hn := hG.2.1
  have huc : EqG G (mul G u (mul G (mul G (inv G u) A) u)) (mul G A u) := by
    have h1 : EqG G (mul G (mul G (inv G u) A) u) (mul G (inv G u) (mul G A u)) := (conj_eq hG hJ).symm
    have h2 : EqG G (mul G u (mul G (inv G u) (mul G A u))) (mul G (mul G u (inv G u)) (mul G A u)) := (massoc hG hJ).symm
    have h3 : EqG G (mul G (mul G u (inv G u)) (mul G A u)) (mul G O (mul G A u)) := (mul_inv hG).times EqG.refl
    exact ((EqG.refl.times h1).trans h2).trans (h3.trans (O_mul hG))
  have c1 : ∀ i, gw G i = 1 → mul G (mul G (inv G u) A) u i = A i := fun i hw => by
    have hi := gn_of_one hG hw
    rw [mul_one hG (by omega) hi, mul_one hG (by omega) hi, inv_one hG (by omega) hi]
    omega
  have small : ∀ i, gw G i = 1 → oi (A i) = oi (Y i) → A i = Y i := fun i hw h => by
    have hi := gn_of_one hG hw
    have h1 := sA i hi hw
    have h2 := sY i hi hw
    have := congrArg Int64.toInt h
    rwa [oi_toInt (by omega) (by omega), oi_toInt (by omega) (by omega)] at this
  have key : (∀ i, gw G i = 1 → A i = Y i) → ∀ m, m < gn G → gapv G A Y m u = mul G (mul G (inv G u) A) u m - Y m := by
    intro h m hm
    have h1 := mul_rw1 hG (a := u) (x := mul G (mul G (inv G u) A) u) (y := Y) hm (fun i hw => by rw [c1 i hw, h i hw])
    rw [huc m hm] at h1
    unfold gapv
    rw [if_pos hm]
    omega
  rw [areS_iff]
  constructor
  · intro h k hk
    by_cases hkn : k < gn G
    · rw [key (fun i hw => small i hw (by rw [← c1 i hw]; exact h i (gn_of_one hG hw))) k hkn, ← oi_sub, h k hkn, Int64.sub_self]
    · unfold gapv
      rw [if_neg hkn]; rfl
  · intro h
    have h1 : ∀ i, gw G i = 1 → A i = Y i := fun i hw => by
      have hi := gn_of_one hG hw
      have hg := h i (by omega)
      unfold gapv at hg
      rw [if_pos hi, mul_one hG (by omega) hi, mul_one hG (by omega) hi, show A i + u i - (u i + Y i) = A i - Y i by omega] at hg
      have h1 := sA i hi hw
      have h2 := sY i hi hw
      have := congrArg Int64.toInt hg
      rw [oi_toInt (by omega) (by omega)] at this
      have h0 : (0 : Int64).toInt = 0 := rfl
      omega
    intro k hk
    have hg := h k (by omega)
    rw [key h1 k hk, ← oi_sub] at hg
    have := congrArg (fun z => z + oi (Y k)) hg
    simp only [Int64.sub_add_cancel, Int64.zero_add] at this
    exact this
def BxI (b : Int) (f i : Nat) (u v : Nat → Int) : Prop := (∀ p, p < i → v p = u p) ∧ (∀ p, i ≤ p → p < f → -b ≤ v p ∧ v p ≤ b) ∧ ∀ p, f ≤ p → v p = 0
theorem uV_id {u : Nat → Int} {i : Nat} (h : u i = 0) (y : Int) : uV (uV u i y) i 0 = u := by
  funext p
  by_cases hp : p = i
  · rw [hp, uV_self, h]
  · rw [uV_ne hp, uV_ne hp]
theorem uV_uV {u : Nat → Int} {i : Nat} {y z : Int} : uV (uV u i y) i z = uV u i z := by
  funext p
  by_cases hp : p = i
  · rw [hp, uV_self, uV_self]
  · rw [uV_ne hp, uV_ne hp, uV_ne hp]
theorem r_seeks {A Y : Nat → Int} {b : Nat} (hG : GOK G) (hJ : Jac G) (hM : MG σ G) (h0 : M0 σ) (hb : 1 ≤ b ∧ b ≤ 3) (sA : SB G 999 A) (sY : SB G 999 Y) : ∀ (d i fuel : Nat) (g : SF) (u : Nat → Int), i + d = fre G → d < fuel → g 0 = A → g 1 = Y → g 2 = u → (∀ p, p < i → -3 ≤ u p ∧ u p ≤ 3) → (∀ p, i ≤ p → u p = 0) → ∃ r g', f_X11_seeks fuel (PS σ g) (i32 i) (i32 b) = some (r, PS σ g') ∧ g' 0 = A ∧ g' 1 = Y ∧ ((r = true ∧ BxI b (fre G) i u (g' 2) ∧ Kx G A Y (g' 2) ∧ ∀ v, BxI b (fre G) i u v → Kx G A Y v → ¬ Lxl (fre G) v (g' 2)) ∨ (r = false ∧ g' 2 = u ∧ ∀ v, BxI b (fre G) i u v → ¬ Kx G A Y v))
  | 0, i, 0, g, u, _, hd, _, _, _, _, _ => absurd hd (Nat.lt_irrefl _)
  | 0, i, fuel + 1, g, u, hid, hd, hg0, hg1, hg2, hsm, hz => by
    have hn := hG.2.1
    have hfr := fre_lt hG
    have hlv := r_level hG (σ := PS σ g) (PS_MG hM)
    have hwi := fre_iff hG (i := i) (by omega)
    have htop := topG_ge hG (i := i) (by omega)
    have hwe : gw G i = topG G := by omega
    have hw3 := topG_le hG
    have sU : SB G 999 u := fun j hj _ => by
      by_cases hji : j < i
      · have := hsm j hji; omega
      · rw [hz j (by omega)]; omega
    obtain ⟨g', e1, w1, k1⟩ := p_conjugates (σ := σ) (f := g) hM hG h0 (s := 0) (r := 2) (t := 3) (by omega) (by omega) (by omega) (by omega) (by omega) (B := 999) (by omega) (by omega) (by rw [hg0]; exact sA) (by rw [hg2]; exact sU)
    rw [hg0, hg2] at w1
    have e1' : f_X11_conjugates (PS σ g) 0 2 3 = some (PS σ g') := e1
    have e2 : f_X11_areSame (PS σ g') 3 1 = some (areS G (g' 3) (g' 1)) := p_areSame (s := 3) (r := 1) hM hG (by omega) (by omega)
    rw [w1, k1 1 (by omega), hg1] at e2
    refine ⟨areS G (mul G (mul G (inv G u) A) u) Y, g', ?_, by rw [k1 0 (by omega), hg0], by rw [k1 1 (by omega), hg1], ?_⟩
    · show o_X11_seeks (f_X11_seeks fuel) (PS σ g) (i32 i) (i32 b) = _
      unfold o_X11_seeks
      rw [e_n (PS_MG hM), e_bs, if_neg (i_ne (by omega) (by omega) (by omega)), e_weight (PS_MG hM) (by omega), e_bs, hlv, e_bs, hwe, if_pos rfl, e_bs]
      show j_X11_seeks_20 (f_X11_seeks fuel) (PS σ g) = _
      unfold j_X11_seeks_20
      rw [e1', e_bs, e2, e_bs]
    · have hci := conj_iff hG hJ (u := u) sA sY
      have hg2' : g' 2 = u := by rw [k1 2 (by omega), hg2]
      have heq : ∀ v, BxI b (fre G) i u v → v = u := fun v hv => by
        funext p
        by_cases hp : p < i
        · exact hv.1 p hp
        · rw [hv.2.2 p (by omega), hz p (by omega)]
      cases hbt : areS G (mul G (mul G (inv G u) A) u) Y with
      | true =>
        refine Or.inl ⟨rfl, ?_, ?_, fun v hv hk ⟨j, hj, h1, h2⟩ => ?_⟩
        · rw [hg2']
          exact ⟨fun p hp => rfl, fun p h1 h2 => by omega, fun p hp => hz p (by omega)⟩
        · rw [hg2']; exact hci.mp hbt
        · rw [hg2', heq v hv] at h2
          omega
      | false =>
        refine Or.inr ⟨rfl, hg2', fun v hv hk => ?_⟩
        rw [heq v hv] at hk
        have := hci.mpr hk
        rw [hbt] at this
        cases this
  | d + 1, i, 0, g, u, _, hd, _, _, _, _, _ => absurd hd (Nat.not_lt_zero _)
  | d + 1, i, fuel + 1, g, u, hid, hd, hg0, hg1, hg2, hsm, hz => by
    have hn := hG.2.1
    have hfr := fre_lt hG
    have hlv := r_level hG (σ := PS σ g) (PS_MG hM)
    have hwi := (fre_iff hG (i := i) (by omega)).mpr (by omega)
    have hw3 := topG_le hG
    have hw1 := (hG.2.2.1 i (by omega)).1
    have hui := hz i (Nat.le_refl _)
    have hneg : -(i32 b) = -(i32 b) := rfl
    -- the loop over values: v from -b on
    have hval : ∀ t, t ≤ 2 * b + 1 → (i32 t - i32 b).toInt64 = oi ((t : Int) - b) ∧ (i32 b < i32 t - i32 b ↔ 2 * b < t) := by
      intro t ht
      rcases (show b = 1 ∨ b = 2 ∨ b = 3 by omega) with z | z | z
      · subst z
        have key : (List.range 4).all (fun t => decide ((i32 t - i32 1).toInt64 = oi ((t : Int) - (1 : Nat)) ∧ (i32 1 < i32 t - i32 1 ↔ 2 * 1 < t))) = true := by decide +kernel
        exact of_decide_eq_true (List.all_eq_true.mp key t (List.mem_range.mpr (by omega)))
      · subst z
        have key : (List.range 6).all (fun t => decide ((i32 t - i32 2).toInt64 = oi ((t : Int) - (2 : Nat)) ∧ (i32 2 < i32 t - i32 2 ↔ 2 * 2 < t))) = true := by decide +kernel
        exact of_decide_eq_true (List.all_eq_true.mp key t (List.mem_range.mpr (by omega)))
      · subst z
        have key : (List.range 8).all (fun t => decide ((i32 t - i32 3).toInt64 = oi ((t : Int) - (3 : Nat)) ∧ (i32 3 < i32 t - i32 3 ↔ 2 * 3 < t))) = true := by decide +kernel
        exact of_decide_eq_true (List.all_eq_true.mp key t (List.mem_range.mpr (by omega)))
    have hloop := loop_inv (body := fun (z10 : (Mem × Int32)) => l_X11_seeks_37 (f_X11_seeks fuel) (i32 i) (i32 b) z10.1 z10.2) (fun n z => ∃ t g1, t ≤ 2 * b + 1 ∧ n = 2 * b + 1 - t ∧ z = (PS σ g1, i32 t - i32 b) ∧ g1 0 = A ∧ g1 1 = Y ∧ (∃ y, g1 2 = uV u i y) ∧ ∀ v, BxI b (fre G) i u v → v i < (t : Int) - b → ¬ Kx G A Y v) (fun r => ∃ g1, g1 0 = A ∧ g1 1 = Y ∧ ((r = Sum.inl (PS σ g1) ∧ (∃ y, g1 2 = uV u i y) ∧ ∀ v, BxI b (fre G) i u v → ¬ Kx G A Y v) ∨ (r = Sum.inr (Sum.inr (true, PS σ g1)) ∧ BxI b (fre G) i u (g1 2) ∧ Kx G A Y (g1 2) ∧ ∀ v, BxI b (fre G) i u v → Kx G A Y v → ¬ Lxl (fre G) v (g1 2)))) ?_ (2 * b + 1) (PS σ g, -(i32 b)) ⟨0, g, by omega, rfl, by rw [show i32 0 - i32 b = -(i32 b) from by rw [← i32_0, Int32.zero_sub]], hg0, hg1, ⟨0, by
        rw [hg2]
        funext p
        by_cases hp : p = i
        · rw [hp, uV_self, hui]
        · rw [uV_ne hp]⟩, fun v hv h1 _ => by
        have := (hv.2.1 i (Nat.le_refl _) (by omega)).1
        omega⟩
    · obtain ⟨r, er, g1, a0, a1, hr⟩ := hloop
      have hstep : f_X11_seeks (fuel + 1) (PS σ g) (i32 i) (i32 b) = (((some r).bind (Sum.elim (fun (z7 : Mem) => j_X11_seeks_69 (f_X11_seeks fuel) (i32 i) z7) some) : Option (Unit ⊕ (Bool × Mem))).bind (Sum.elim (fun (z1 : Unit) => j_X11_seeks_20 (f_X11_seeks fuel) (PS σ g)) some) : Option (Bool × Mem)) := by
        show o_X11_seeks (f_X11_seeks fuel) (PS σ g) (i32 i) (i32 b) = _
        unfold o_X11_seeks
        rw [e_n (PS_MG hM), e_bs, if_neg (i_ne (by omega) (by omega) (by omega)), e_weight (PS_MG hM) (by omega), e_bs, hlv, e_bs, if_neg (i_ne (by omega) (by omega) (by omega)), e_bd, er]
      rcases hr with ⟨rfl, ⟨y, hy⟩, hno⟩ | ⟨rfl, h1, h2, h3⟩
      · have e5 : f_X11_puts (PS σ g1) 2 (i32 i) 0 = some (PS σ (uS g1 2 (uV (g1 2) i 0))) := p_puts (σ := σ) (f := g1) (s := 2) (x := 0) (by omega) (by omega)
        refine ⟨false, uS g1 2 (uV (g1 2) i 0), ?_, by rw [uS_ne (by omega), a0], by rw [uS_ne (by omega), a1], Or.inr ⟨rfl, ?_, hno⟩⟩
        · rw [hstep, e_bs]
          show (j_X11_seeks_69 (f_X11_seeks fuel) (i32 i) (PS σ g1) : Option (Unit ⊕ (Bool × Mem))).bind (Sum.elim (fun (z1 : Unit) => j_X11_seeks_20 (f_X11_seeks fuel) (PS σ g)) some) = _
          unfold j_X11_seeks_69
          rw [e5, e_bs]
          rfl
        · rw [uS_self, hy, uV_id hui]
      · refine ⟨true, g1, ?_, a0, a1, Or.inl ⟨rfl, h1, h2, h3⟩⟩
        rw [hstep, e_bs]
        rfl
    · rintro n z ⟨t, g1, ht, rfl, rfl, a0, a1, ⟨y, hy⟩, hno⟩
      obtain ⟨v1, v2⟩ := hval t ht
      by_cases htb : t = 2 * b + 1
      · right
        refine ⟨Sum.inl (PS σ g1), ?_, g1, a0, a1, Or.inl ⟨rfl, ⟨y, hy⟩, fun v hv => hno v hv ?_⟩⟩
        · show l_X11_seeks_37 (f_X11_seeks fuel) (i32 i) (i32 b) (PS σ g1) (i32 t - i32 b) = _
          unfold l_X11_seeks_37
          rw [if_pos (v2.mpr (by omega))]
        · have := (hv.2.1 i (Nat.le_refl _) (by omega)).2
          omega
      · have e5 : f_X11_puts (PS σ g1) 2 (i32 i) (oi ((t : Int) - b)) = some (PS σ (uS g1 2 (uV (g1 2) i ((t : Int) - b)))) := p_puts (σ := σ) (f := g1) (s := 2) (x := (t : Int) - b) (by omega) (by omega)
        have hu2 : (uS g1 2 (uV (g1 2) i ((t : Int) - b))) 2 = uV u i ((t : Int) - b) := by rw [uS_self, hy, uV_uV]
        have b0 : (uS g1 2 (uV (g1 2) i ((t : Int) - b))) 0 = A := by rw [uS_ne (by omega), a0]
        have b1 : (uS g1 2 (uV (g1 2) i ((t : Int) - b))) 1 = Y := by rw [uS_ne (by omega), a1]
        generalize uS g1 2 (uV (g1 2) i ((t : Int) - b)) = g2 at e5 hu2 b0 b1
        obtain ⟨r, g3, e6, c0, c1, hr⟩ := r_seeks hG hJ hM h0 hb sA sY d (i + 1) fuel g2 (uV u i ((t : Int) - b)) (by omega) (by omega) b0 b1 hu2 (fun p hp => by
          by_cases hpi : p = i
          · rw [hpi, uV_self]; omega
          · rw [uV_ne hpi]; exact hsm p (by omega)) (fun p hp => by rw [uV_ne (by omega)]; exact hz p (by omega))
        have hsplit : ∀ v, BxI b (fre G) i u v → v i = (t : Int) - b → BxI b (fre G) (i + 1) (uV u i ((t : Int) - b)) v := fun v hv hvi => ⟨fun p hp => by
          by_cases hpi : p = i
          · rw [hpi, uV_self, hvi]
          · rw [uV_ne hpi]; exact hv.1 p (by omega), fun p h1 h2 => hv.2.1 p (by omega) h2, hv.2.2⟩
        have hbody : l_X11_seeks_37 (f_X11_seeks fuel) (i32 i) (i32 b) (PS σ g1) (i32 t - i32 b) = if r = true then some (Sum.inr (Sum.inr (Sum.inr (true, PS σ g3)))) else some (Sum.inl (PS σ g3, i32 t - i32 b + 1)) := by
          unfold l_X11_seeks_37
          rw [if_neg (fun q => by have := v2.mp q; omega), v1, e5, e_bs, i32_1, i32_add, e6, e_bq]
        rcases hr with ⟨rfl, h1, h2, h3⟩ | ⟨rfl, h1, h2⟩
        · right
          have hgi : g3 2 i = (t : Int) - b := by rw [h1.1 i (by omega), uV_self]
          refine ⟨_, ?_, g3, c0, c1, Or.inr ⟨rfl, ⟨fun p hp => ?_, fun p h1' h2' => ?_, h1.2.2⟩, h2, fun v hv hk hl => ?_⟩⟩
          · show l_X11_seeks_37 (f_X11_seeks fuel) (i32 i) (i32 b) (PS σ g1) (i32 t - i32 b) = _
            rw [hbody, if_pos rfl]
          · rw [h1.1 p (by omega), uV_ne (by omega)]
          · by_cases hpi : p = i
            · rw [hpi, hgi]; omega
            · exact h1.2.1 p (by omega) h2'
          · by_cases hvi : v i < (t : Int) - b
            · exact hno v hv hvi hk
            · obtain ⟨j, hj, l1, l2⟩ := hl
              have hji : ¬ j < i := fun q => by
                rw [hv.1 j q, h1.1 j (by omega), uV_ne (by omega)] at l2
                omega
              by_cases hje : j = i
              · subst hje
                omega
              · have hvi2 : v i = (t : Int) - b := by rw [l1 i (by omega), hgi]
                exact h3 v (hsplit v hv hvi2) hk ⟨j, hj, l1, l2⟩
        · left
          refine ⟨(PS σ g3, i32 (t + 1) - i32 b), 2 * b + 1 - (t + 1), by omega, ?_, t + 1, g3, by omega, rfl, rfl, c0, c1, ⟨(t : Int) - b, h1⟩, fun v hv hlt hk => ?_⟩
          · show l_X11_seeks_37 (f_X11_seeks fuel) (i32 i) (i32 b) (PS σ g1) (i32 t - i32 b) = _
            rw [hbody, if_neg (by decide), show i32 (t + 1) - i32 b = i32 t - i32 b + 1 from by
              rw [← i32_add, ← i32_1, Int32.sub_eq_add_neg, Int32.sub_eq_add_neg, Int32.add_assoc, Int32.add_comm 1, Int32.add_assoc]]
          · by_cases hvi : v i < (t : Int) - b
            · exact hno v hv hvi hk
            · exact h2 v (hsplit v hv (by omega)) hk
theorem FSk.sc {τ : Mem} (h : FSk 176 σ τ) : SC σ τ := ⟨fun x hx => h.1 x (by omega), fun c _ => by rw [h.1 40 (by omega)], fun c _ => by rw [h.1 144 (by omega)], fun x hx => h.2 x (by omega) (by omega) (by omega) (by omega)⟩
theorem Fst.BxI {A Y u : Nat → Int} {b : Int} {f : Nat} (h : BxI b f 0 O u) (k : Kx G A Y u) (m : ∀ v, BxI b f 0 O v → Kx G A Y v → ¬ Lxl f v u) : Fst G A Y b f u := ⟨⟨fun i hi => h.2.1 i (Nat.zero_le _) hi, h.2.2⟩, k, fun w hw hk => m w ⟨fun p hp => absurd hp (Nat.not_lt_zero _), fun p _ hp => hw.1 p hp, hw.2⟩ hk⟩
theorem ok_10 : Ok_10 II := by
  intro c σ x y z w hc ⟨S, ok, h, hr⟩
  have hG : GOK (aG S) := ok.1.1
  have hn : gn (aG S) ≤ 6 := hG.2.1
  obtain ⟨b, hb, hB⟩ := c_cons h
  have em := fun τ : Mem => r_in (σ := τ) (x := w) (l := 1) (u := 3) ⟨by omega, by omega⟩ ⟨by omega, by omega⟩
  unfold f_X10_seek
  rw [c_areUsable hb, e_bs]
  by_cases hall : (isReg x = true ∧ isReg y = true ∧ isReg z = true ∧ b = true) ∧ (1 ≤ w.toInt ∧ w.toInt ≤ 3)
  · obtain ⟨⟨hx, hy, hz, hbt⟩, hw⟩ := hall
    have hcons := hB.mp hbt
    have hJ := Cons.jac hG hcons
    have hw1 := i32_of (x := w) (by omega)
    have hwb : 1 ≤ w.toInt.toNat ∧ w.toInt.toNat ≤ 3 := by omega
    rw [hx, hy, hbt, Bool.and_self, Bool.and_self, if_pos rfl, c_isReg, e_bs, hz, if_pos rfl, if_neg (fun q => by have := (lt32 (k := 1) (by omega)).mp q; omega), if_pos (show w ≤ 3 from (le32 (k := 3) (by omega)).mpr (by omega))]
    obtain ⟨r, hr10, rfl⟩ := isReg_idx hx
    obtain ⟨p, hp10, rfl⟩ := isReg_idx hy
    obtain ⟨q, hq10, rfl⟩ := isReg_idx hz
    have sp := reg_sb ok p
    have sq := reg_sb ok q
    obtain ⟨rc, σ1, e1, f1, hrc⟩ := c_conjugator (σ := σ) (out := 176) (a := 6 + p) (y := 6 + q) (b := w.toInt.toNat) hG (c_ct h hcons) h.law.1 ln_176 (ln_reg hp10) (ln_reg hq10) (c_reg h hp10) (c_reg h hq10) (by omega) (by omega) (sp.w hG (by omega)) (sq.w hG (by omega)) hwb
    rw [← hw1] at e1
    have h1 := h.sc f1.sc
    rw [e_gR ln_5 hp10 (by omega), rf_5 hp10, e_gR ln_5 hq10 (by omega), rf_5 hq10, e1, e_bq]
    have hmem : ∀ σ2, HI σ σ2 → ∃ τ b2 g, f_X11_can σ2 (i32 r) (i32 p) (i32 q) = some (true, τ) ∧ LO σ2 τ ∧ MG τ (aG S) ∧ (∀ g, IRef S (PS τ g)) ∧ (∀ g, LO τ (PS τ g)) ∧ ((f_X11_laysRegister τ 0 (i32 p)).bind (fun (σ4 : Mem) => (f_X11_laysRegister σ4 1 (i32 q)).bind (fun (σ5 : Mem) => (f_X11_ones σ5 2).bind (fun (σ6 : Mem) => f_X11_seeks 8 σ6 0 w)))) = some (b2, PS τ g) ∧ ((b2 = true ∧ Fst (aG S) (aR S p) (aR S q) w.toInt.toNat (fre (aG S)) (g 2)) ∨ (b2 = false ∧ ∀ v, Bx w.toInt.toNat (fre (aG S)) v → ¬ Kx (aG S) (aR S p) (aR S q) v)) := by
      intro σ2 hi2
      obtain ⟨b3, τ, e3, r3, l3, hc3, _⟩ := r_can (hr.hi hi2) ok (x := i32 r) (y := i32 p) (z := i32 q)
      have : b3 = true := hc3.mpr hcons
      subst this
      rw [hx, hy, hz, Bool.and_self, Bool.and_self, Bool.and_self] at e3
      obtain ⟨⟨f, hf⟩, hI, hL, hM, h0, hRB⟩ := at_slots r3
      have a1 : f_X11_laysRegister τ 0 (i32 p) = some (PS τ (uS f 0 (aR S p))) := by
        have := p_lays (σ := τ) (f := f) hRB ok (s := 0) (by omega) hp10
        rw [hf] at this
        exact this
      have a2 : f_X11_laysRegister (PS τ (uS f 0 (aR S p))) 1 (i32 q) = some (PS τ (uS (uS f 0 (aR S p)) 1 (aR S q))) := p_lays (σ := τ) (f := uS f 0 (aR S p)) hRB ok (s := 1) (by omega) hq10
      have a3 : f_X11_ones (PS τ (uS (uS f 0 (aR S p)) 1 (aR S q))) 2 = some (PS τ (uS (uS (uS f 0 (aR S p)) 1 (aR S q)) 2 (fun _ => 0))) := p_ones (s := 2) (by omega)
      have b0 : (uS (uS (uS f 0 (aR S p)) 1 (aR S q)) 2 (fun _ => 0)) 0 = aR S p := by rw [uS_ne (by omega), uS_ne (by omega), uS_self]
      have b1 : (uS (uS (uS f 0 (aR S p)) 1 (aR S q)) 2 (fun _ => 0)) 1 = aR S q := by rw [uS_ne (by omega), uS_self]
      have b2 : (uS (uS (uS f 0 (aR S p)) 1 (aR S q)) 2 (fun _ => 0)) 2 = O := by rw [uS_self]; rfl
      generalize uS (uS (uS f 0 (aR S p)) 1 (aR S q)) 2 (fun _ => 0) = g1 at a3 b0 b1 b2
      have hfr := fre_lt hG
      obtain ⟨rr, g2, e4, c0, c1, hrr⟩ := r_seeks (σ := τ) (b := w.toInt.toNat) hG hJ hM h0 hwb sp sq (fre (aG S)) 0 8 g1 O (by omega) (by omega) b0 b1 b2 (fun p hp => absurd hp (Nat.not_lt_zero _)) (fun _ _ => rfl)
      rw [← hw1] at e4
      have e4' : f_X11_seeks 8 (PS τ g1) 0 w = some (rr, PS τ g2) := e4
      refine ⟨τ, rr, g2, e3, l3, hM, hI, hL, by rw [a1, e_bs, a2, e_bs, a3, e_bs, e4'], ?_⟩
      rcases hrr with ⟨rfl, h1, h2, h3⟩ | ⟨rfl, _, h2⟩
      · exact Or.inl ⟨rfl, Fst.BxI h1 h2 h3⟩
      · exact Or.inr ⟨rfl, fun v hv => h2 v ⟨fun p hp => absurd hp (Nat.not_lt_zero _), fun p _ hp => hv.1 p hp, hv.2⟩⟩
    rcases hrc with ⟨rfl, u, hu, r1⟩ | ⟨rfl, hno⟩
    · have hus : ∀ i, -999 ≤ u i ∧ u i ≤ 999 := fun i => by
        by_cases hi : i < fre (aG S)
        · have := hu.1.1 i hi; omega
        · rw [hu.1.2 i (by omega)]; omega
      have hel : isEl (aG S) u = true := isEl_small hus
      have hfr := fre_lt hG
      have zu : Z6 (aG S) u := fun k h1 _ => hu.1.2 k (by omega)
      obtain ⟨σ2, e2, i2, hi2⟩ := c_keep h1 ok r1 zu hr10 hel
      obtain ⟨τ, b2, g, e3, l3, hM, hI, hL, e4, hb2⟩ := hmem σ2 (f1.sc.hi.trans hi2)
      rcases hb2 with ⟨rfl, hg⟩ | ⟨_, hno⟩
      · have hgu : g 2 = u := hg.uniq hu
        obtain ⟨υ, e5, r5, l5⟩ := r_gives (f := g) (hI g) ok hr10 (s := 2) (by omega)
        rw [hgu, hel] at e5
        rw [hgu, hel, if_pos rfl] at r5
        rw [if_pos rfl, e2, e_bq, if_pos rfl, e_bs]
        refine ⟨true, σ2, υ, rfl, ?_, nS S r u, nS_ok ok hel, i2.lo ((l3.trans (hL _)).trans l5), r5⟩
        unfold f_X11_seek
        rw [e3, e_bq, if_pos rfl, show (1 : Int64) = oi 1 from rfl, show (3 : Int64) = oi 3 from rfl, em, e_bs, decide_eq_true hw, if_pos rfl]
        obtain ⟨s4, q4, e4⟩ := Option.bind_eq_some_iff.mp e4
        obtain ⟨s5, q5, e4⟩ := Option.bind_eq_some_iff.mp e4
        obtain ⟨s6, q6, e4⟩ := Option.bind_eq_some_iff.mp e4
        have e5' : f_X11_gives (PS τ g) (i32 r) 2 = some (true, υ) := e5
        rw [q4, e_bs, q5, e_bs, q6, e_bs, e4, e_bq, if_pos rfl, e5', e_bq, if_pos rfl, e_bs]
        rfl
      · exact absurd hu.2.1 (hno u hu.1)
    · rw [if_neg (by decide), e_bs]
      obtain ⟨τ, b2, g, e3, l3, hM, hI, hL, e4, hb2⟩ := hmem σ1 f1.sc.hi
      rcases hb2 with ⟨_, hg⟩ | ⟨rfl, _⟩
      · exact absurd hg.2.1 (hno _ hg.1)
      · refine ⟨false, σ1, PS τ g, rfl, ?_, fin_q ok h1 (hI g) (l3.trans (hL _))⟩
        unfold f_X11_seek
        rw [e3, e_bq, if_pos rfl, show (1 : Int64) = oi 1 from rfl, show (3 : Int64) = oi 3 from rfl, em, e_bs, decide_eq_true hw, if_pos rfl]
        obtain ⟨s4, q4, e4⟩ := Option.bind_eq_some_iff.mp e4
        obtain ⟨s5, q5, e4⟩ := Option.bind_eq_some_iff.mp e4
        obtain ⟨s6, q6, e4⟩ := Option.bind_eq_some_iff.mp e4
        rw [q4, e_bs, q5, e_bs, q6, e_bs, e4, e_bq, if_neg (by decide), e_bs]
        rfl
  · obtain ⟨b3, τ, e3, r3, l3, hc3, _⟩ := r_can hr ok (x := x) (y := y) (z := z)
    have hbb : b3 = b := bool_iff hc3 hB
    subst hbb
    refine ⟨false, σ, τ, ?_, ?_, fin_q ok h r3 l3⟩
    · by_cases h3 : isReg x = true ∧ isReg y = true ∧ b3 = true
      · rw [h3.1, h3.2.1, h3.2.2, Bool.and_self, Bool.and_self, if_pos rfl, c_isReg, e_bs]
        cases hz : isReg z with
        | false => rw [if_neg (by decide)]
        | true =>
          rw [if_pos rfl]
          by_cases hw1 : w < 1
          · rw [if_pos hw1]
          · have hw1' : ¬ w.toInt < 1 := fun q => hw1 ((lt32 (k := 1) (by omega)).mpr q)
            rw [if_neg hw1, if_neg (show ¬ w ≤ 3 from fun q => hall ⟨⟨h3.1, h3.2.1, hz, h3.2.2⟩, by omega, (le32 (k := 3) (by omega)).mp q⟩)]
      · rw [and3 h3, if_neg (by decide)]
    · unfold f_X11_seek
      rw [e3, e_bq]
      by_cases h4 : isReg x = true ∧ isReg y = true ∧ isReg z = true ∧ b3 = true
      · rw [h4.1, h4.2.1, h4.2.2.1, h4.2.2.2, Bool.and_self, Bool.and_self, Bool.and_self, if_pos rfl, show (1 : Int64) = oi 1 from rfl, show (3 : Int64) = oi 3 from rfl, em, e_bs, decide_eq_false (fun q => hall ⟨h4, q⟩), if_neg (by decide)]
      · rw [and4 h4, if_neg (by decide)]
end SEK
end
section
/-! the objects at their start -/
section BGN
theorem kf_0 : gn (kf 0 8) = 3 := by decide +kernel
theorem nil_get {α : Type} (j : Nat) (x : α) (h : ([] : List α)[j]? = some x) : False := by simp at h
theorem nil_mem {α : Type} (x : α) (h : x ∈ ([] : List α)) : False := by cases h
theorem none_some {α : Type} (x : α) (h : (none : Option α) = some x) : False := by cases h
theorem start_ok : Start II := by
  have e0 : ∀ x y, x ≠ 144 → (wI zM 144 1 (-1)).1 x y = 0 := fun x y hx => by rw [wI_1, if_neg (fun q => hx q.1)]; rfl
  obtain ⟨σ1, e1, f1, m1⟩ := c_takeKind (σ := wI zM 144 1 (-1)) (κ := 0) (by omega)
  have hG : GOK (kf 0 8) := kf_ok (by omega) 8 (by omega)
  have g1 : ∀ x y, x ≠ 2 → x ≠ 3 → x ≠ 4 → x ≠ 144 → σ1.1 x y = 0 := fun x y h1 h2 h3 h4 => by rw [f1.2 x h1 h2 h3]; exact e0 x y h4
  have no41 : ¬ CG σ1 41 (kf 0 8) := fun z => by
    have := z.1
    rw [g1 41 0 (by omega) (by omega) (by omega) (by omega), kf_0] at this
    exact absurd this (by decide)
  obtain ⟨σ2, e2, f2, m2, l2, hed⟩ := c_follow (σ := σ1) hG m1 (ed := 0) (g1 40 4 (by omega) (by omega) (by omega) (by omega)) (fun z => absurd z no41)
  have hed2 : σ2.1 40 4 = i32 1 := by
    rcases hed with rfl | h
    · exact absurd m2 no41
    · exact h
  have g2 : ∀ x y, (x < 2 ∨ (5 ≤ x ∧ x < 35) ∨ (128 ≤ x ∧ x ≠ 144)) → σ2.1 x y = 0 := fun x y hx => by
    rw [(f2 x (by omega)).1]
    exact g1 x y (by omega) (by omega) (by omega) (by omega)
  have g2L : ∀ x y, x < 35 ∨ 128 ≤ x → σ2.2 x y = 0 := fun x y hx => by
    rw [(f2 x (by omega)).2, f1.1]
    rfl
  have h144 : σ2.1 144 0 = 0 ∧ σ2.1 144 1 = -1 := by
    rw [(f2 144 (by omega)).1, f1.2 144 (by omega) (by omega) (by omega)]
    exact ⟨by rw [wI_1, if_neg (by omega)]; rfl, by rw [wI_1, if_pos ⟨rfl, rfl⟩]⟩
  have m22 : CG σ2 2 (kf 0 8) := by
    unfold CG
    rw [(f2 2 (by omega)).1, (f2 (2 + 1) (by omega)).1, (f2 (2 + 2) (by omega)).1]
    exact m1
  have tl : ∀ x, x < 306 → (wI (wI (trim σ2 306) 306 20 (-1)) 306 24 (-1)).1 x = σ2.1 x ∧ (wI (wI (trim σ2 306) 306 20 (-1)) 306 24 (-1)).2 x = σ2.2 x := fun x hx => by
    constructor
    · funext y
      rw [wI_1, if_neg (by omega), wI_1, if_neg (by omega)]
      exact if_pos hx
    · funext y
      exact if_pos hx
  have th : ∀ x y, 306 < x ∨ (x = 306 ∧ y ≠ 20 ∧ y ≠ 24) → (wI (wI (trim σ2 306) 306 20 (-1)) 306 24 (-1)).1 x y = 0 := fun x y hx => by
    rw [wI_1, if_neg (by omega), wI_1, if_neg (by omega)]
    exact if_neg (by omega)
  have thL : ∀ x y, 306 ≤ x → (wI (wI (trim σ2 306) 306 20 (-1)) 306 24 (-1)).2 x y = 0 := fun x y hx => if_neg (by omega)
  have t20 : (wI (wI (trim σ2 306) 306 20 (-1)) 306 24 (-1)).1 306 20 = -1 := by rw [wI_1, if_neg (by omega), wI_1, if_pos ⟨rfl, rfl⟩]
  obtain ⟨σ3, e3, f3, n9, rb⟩ := r_plain (σ := wI (wI (trim σ2 306) 306 20 (-1)) 306 24 (-1))
  have lo : ∀ x, x < 306 → σ3.1 x = σ2.1 x ∧ σ3.2 x = σ2.2 x := fun x hx => ⟨by rw [(f3.lo x hx).1, (tl x hx).1], by rw [(f3.lo x hx).2, (tl x hx).2]⟩
  refine ⟨σ1, σ2, σ3, e1, e2, e3, (((kf 0 8, fun _ _ => 0), (0, 0, fun _ => 0), [], none, [], (0, -1)) : AS), ?_, ?_, ?_⟩
  · exact ⟨⟨hG, fun _ _ => ⟨by show (-999 : Int) ≤ 0; omega, by show (0 : Int) ≤ 999; omega⟩, fun _ _ _ => rfl⟩, Nat.zero_le _, ⟨Nat.zero_le _, fun X hX => (nil_mem X hX).elim⟩, fun Y hY => (none_some Y hY).elim, Nat.zero_le _, fun x hx => (nil_mem x hx).elim⟩
  · have z0 : ∀ x y, (x < 2 ∨ (5 ≤ x ∧ x < 35) ∨ (128 ≤ x ∧ x ≠ 144)) → x < 306 → σ3.1 x y = 0 := fun x y h1 h2 => by rw [(lo x h2).1]; exact g2 x y h1
    refine ⟨⟨?_, fun r i hr hi => ?_⟩, ⟨z0 16 0 (by omega) (by omega), z0 16 1 (by omega) (by omega), fun i hi => absurd hi (Nat.not_lt_zero i)⟩, ⟨z0 0 4 (by omega) (by omega), 0, by omega, z0 0 5 (by omega) (by omega), fun j X hj => (nil_get j X hj).elim⟩, ⟨z0 0 2 (by omega) (by omega), fun y hy => (none_some y hy).elim⟩, ⟨z0 0 7 (by omega) (by omega), fun p x hp => (nil_get p x hp).elim⟩, ⟨by rw [(lo 144 (by omega)).1]; exact h144.1, by rw [(lo 144 (by omega)).1]; exact h144.2⟩, ?_⟩
    · unfold CG
      rw [(lo (1 + 1) (by omega)).1, (lo (1 + 1 + 1) (by omega)).1, (lo (1 + 1 + 2) (by omega)).1]
      exact m22
    · rw [(lo (1 + 5 + r) (by omega)).2, g2L (1 + 5 + r) i (by omega)]
      rfl
    · refine ⟨?_, l2.eqs (by rw [(lo 40 (by omega)).1]) (fun x h1 h2 => lo x (by omega)), 1, 0, by rw [(lo 40 (by omega)).1]; exact hed2, z0 128 2 (by omega) (by omega), by omega, by omega, fun q => by omega⟩
      unfold CG
      rw [(lo 41 (by omega)).1, (lo (41 + 1) (by omega)).1, (lo (41 + 2) (by omega)).1]
      exact m2
  · have k : ∀ c, c ≠ 9 → c ≠ 20 → c ≠ 24 → σ3.1 306 c = 0 := fun c h1 h2 h3 => by rw [f3.2.2 c h1]; exact th 306 c (by omega)
    refine ⟨rb, ⟨k 4 (by omega) (by omega) (by omega), k 27 (by omega) (by omega) (by omega), fun i hi => absurd hi (Nat.not_lt_zero i)⟩, ⟨k 3 (by omega) (by omega) (by omega), fun j X hj => (nil_get j X hj).elim⟩, ⟨k 37 (by omega) (by omega) (by omega), fun y hy => (none_some y hy).elim⟩, ⟨k 18 (by omega) (by omega) (by omega), fun p x hp => (nil_get p x hp).elim⟩, ⟨k 19 (by omega) (by omega) (by omega), by rw [f3.2.2 20 (by omega)]; exact t20⟩, ⟨false, n9, fun q => by cases q⟩, fun m hm => by rw [f3.1]; exact thL 314 m (by omega)⟩
theorem up_ok : ∀ c σ, II c σ → II (c + 1) σ := fun _ _ ⟨S, ok, h, hr⟩ => ⟨S, ok, h.up, hr⟩
end BGN
end
section
/-! texts: signs, blanks, digits; both readers -/
section SGN
variable {σ : Mem} {w : List Nat}
def sn (w : List Nat) (p : Nat) : Int32 := match w[p]? with
  | some x => i32 x
  | none => -1
theorem sn_in {p x : Nat} (h : w[p]? = some x) : sn w p = i32 x := by unfold sn; rw [h]
theorem sn_out {p : Nat} (h : w.length ≤ p) : sn w p = -1 := by
  unfold sn
  rw [List.getElem?_eq_none h]
def Sk (w : List Nat) (p q : Nat) : Prop := p ≤ q ∧ q ≤ w.length ∧ (∀ t, p ≤ t → t < q → sn w t = 32) ∧ sn w q ≠ 32
theorem Sk_ex (w : List Nat) : ∀ n p, p ≤ w.length → w.length - p ≤ n → ∃ q, Sk w p q
  | 0, p, hp, hn => ⟨p, Nat.le_refl _, hp, fun t h1 h2 => by omega, by rw [sn_out (by omega)]; decide⟩
  | n + 1, p, hp, hn => by
    by_cases h : sn w p = 32
    · have hlt : p < w.length := by
        refine Classical.byContradiction (fun z => ?_)
        rw [sn_out (by omega)] at h
        exact absurd h (by decide)
      obtain ⟨q, h1, h2, h3, h4⟩ := Sk_ex w n (p + 1) (by omega) (by omega)
      refine ⟨q, by omega, h2, fun t t1 t2 => ?_, h4⟩
      by_cases htp : t = p
      · rw [htp]; exact h
      · exact h3 t (by omega) t2
    · exact ⟨p, Nat.le_refl _, hp, fun t h1 h2 => by omega, h⟩
theorem Sk_go {p q : Nat} (h : Sk w p q) (hpq : p < q) : Sk w (p + 1) q := ⟨by omega, h.2.1, fun t t1 t2 => h.2.2.1 t (by omega) t2, h.2.2.2⟩
theorem Sk_same {p : Nat} (hp : p ≤ w.length) (h : sn w p ≠ 32) : Sk w p p := ⟨Nat.le_refl _, hp, fun t h1 h2 => by omega, h⟩
theorem Sk_uniq {p q r : Nat} (h : Sk w p q) (k : Sk w p r) : q = r := by
  rcases Nat.lt_trichotomy q r with c | c | c
  · exact absurd (k.2.2.1 q h.1 c) h.2.2.2
  · exact c
  · exact absurd (h.2.2.1 r k.1 c) k.2.2.2
theorem wI_wI {a k : Nat} {v u : Int32} : wI (wI σ a k v) a k u = wI σ a k u := by
  refine Prod.ext ?_ rfl
  funext x y
  show (if x = a ∧ y = k then u else if x = a ∧ y = k then v else σ.1 x y) = if x = a ∧ y = k then u else σ.1 x y
  by_cases h : x = a ∧ y = k
  · rw [if_pos h, if_pos h]
  · rw [if_neg h, if_neg h, if_neg h]
theorem wI_id {a k : Nat} {v : Int32} (h : σ.1 a k = v) : wI σ a k v = σ := by
  refine Prod.ext ?_ rfl
  funext x y
  show (if x = a ∧ y = k then v else σ.1 x y) = σ.1 x y
  by_cases hx : x = a ∧ y = k
  · rw [if_pos hx, hx.1, hx.2, h]
  · rw [if_neg hx]
/-- the class's reader has this text -/
def CTx (σ : Mem) (w : List Nat) : Prop := w.length ≤ 200 ∧ σ.1 144 8 = i32 w.length ∧ ∀ (q x : Nat), w[q]? = some x → σ.1 175 q = i32 x
def RTx (σ : Mem) (w : List Nat) : Prop := w.length ≤ 200 ∧ σ.1 306 22 = i32 w.length ∧ ∀ (q x : Nat), w[q]? = some x → σ.1 317 q = i32 x
theorem CTx.at {v : Int32} (h : CTx σ w) : CTx (wI σ 144 9 v) w := ⟨h.1, by rw [wI_1, if_neg (by omega)]; exact h.2.1, fun q x hq => by rw [wI_1, if_neg (by omega)]; exact h.2.2 q x hq⟩
theorem c_sign {p : Nat} (h : CTx σ w) (hp : p ≤ w.length) (h9 : σ.1 144 9 = i32 p) : f_X5_signHere σ = some (sn w p) := by
  have hl := h.1
  unfold f_X5_signHere
  rw [e_gF, h9, if_neg (show ¬ i32 p < 0 from i_nlt (b := 0) (by omega) (by omega)), e_gF, h9, e_gF, h.2.1]
  by_cases hpl : p < w.length
  · have hg : w[p]? = some w[p] := List.getElem?_eq_getElem hpl
    rw [if_neg (i_nle hpl (by omega)), e_gF, h9, e_gI ln_175 (by omega) (by omega), h.2.2 p _ hg, e_bs, sn_in hg]
    rfl
  · rw [if_pos (i_le (by omega) (by omega)), e_bs, sn_out (by omega)]
    rfl
theorem c_skip {p q : Nat} (h : CTx σ w) (h9 : σ.1 144 9 = i32 p) (hs : Sk w p q) : f_X5_skipBlanks σ = some (sn w q, wI σ 144 9 (i32 q)) := by
  have hl := h.1
  have hq := hs.2.1
  unfold f_X5_skipBlanks
  have hloop := loop_inv (body := fun (z4 : (Mem × Int32)) => l_X5_skipBlanks_2 z4.1 z4.2) (fun n z => ∃ t, p ≤ t ∧ t ≤ q ∧ n = q - t ∧ z = (wI σ 144 9 (i32 t), i32 (t - p))) (fun τ => τ = wI σ 144 9 (i32 q)) ?_ (q - p) (σ, 0) ⟨p, Nat.le_refl _, hs.1, rfl, by rw [wI_id h9, Nat.sub_self]; rfl⟩
  · obtain ⟨τ, e, rfl⟩ := hloop
    rw [e, e_bs]
    unfold j_X5_skipBlanks_34
    rw [c_sign (h.at) hq (by rw [wI_1, if_pos ⟨rfl, rfl⟩]), e_bs]
  · rintro n z ⟨t, h1, h2, rfl, rfl⟩
    have hbody : l_X5_skipBlanks_2 (wI σ 144 9 (i32 t)) (i32 (t - p)) = if i32 200 ≤ i32 (t - p) then some (Sum.inr (wI σ 144 9 (i32 t))) else if sn w t = 32 then some (Sum.inl (wI σ 144 9 (i32 t + 1), i32 (t - p) + 1)) else some (Sum.inr (wI σ 144 9 (i32 t))) := by
      unfold l_X5_skipBlanks_2
      have g9 : (wI σ 144 9 (i32 t)).1 144 9 = i32 t := by rw [wI_1, if_pos ⟨rfl, rfl⟩]
      rw [c_sign (h.at) (by omega) g9, e_bs, e_gF, g9, e_pF, wI_wI]
      rfl
    by_cases htq : t = q
    · right
      subst htq
      refine ⟨_, ?_, rfl⟩
      show l_X5_skipBlanks_2 (wI σ 144 9 (i32 t)) (i32 (t - p)) = _
      rw [hbody, if_neg hs.2.2.2]
      split <;> rfl
    · left
      refine ⟨(wI σ 144 9 (i32 (t + 1)), i32 (t + 1 - p)), q - (t + 1), by omega, ?_, t + 1, by omega, by omega, rfl, rfl⟩
      show l_X5_skipBlanks_2 (wI σ 144 9 (i32 t)) (i32 (t - p)) = _
      rw [hbody, if_neg (i_nle (by omega) (by omega)), if_pos (hs.2.2.1 t h1 (by omega)), i32_1, i32_add, i32_add, show t - p + 1 = t + 1 - p by omega]
theorem r_here {p : Nat} (h : RTx σ w) (hp : p ≤ w.length) (h9 : σ.1 306 21 = i32 p) : f_X11_here σ = some (sn w p) := by
  have hl := h.1
  unfold f_X11_here
  rw [e_gF, h9, e_gF, h.2.1]
  by_cases hpl : p < w.length
  · have hg : w[p]? = some w[p] := List.getElem?_eq_getElem hpl
    rw [if_neg (i_nle hpl (by omega)), e_gF, h9, e_gI ln_317 (by omega) (by omega), h.2.2 p _ hg, sn_in hg]
  · rw [if_pos (i_le (by omega) (by omega)), sn_out (by omega)]
theorem RTx.at {v : Int32} (h : RTx σ w) : RTx (wI σ 306 21 v) w := ⟨h.1, by rw [wI_1, if_neg (by omega)]; exact h.2.1, fun q x hq => by rw [wI_1, if_neg (by omega)]; exact h.2.2 q x hq⟩
theorem r_skip {p q : Nat} (h : RTx σ w) (h9 : σ.1 306 21 = i32 p) (hs : Sk w p q) : f_X11_behindBlanks σ = some (sn w q, wI σ 306 21 (i32 q)) := by
  have hl := h.1
  have hq := hs.2.1
  unfold f_X11_behindBlanks
  have hloop := loop_inv (body := fun (z3 : Mem) => l_X11_behindBlanks_0 z3) (fun n z => ∃ t, p ≤ t ∧ t ≤ q ∧ n = q - t ∧ z = wI σ 306 21 (i32 t)) (fun τ => τ = wI σ 306 21 (i32 q)) ?_ (q - p) σ ⟨p, Nat.le_refl _, hs.1, rfl, (wI_id h9).symm⟩
  · obtain ⟨τ, e, rfl⟩ := hloop
    rw [e, e_bs]
    unfold j_X11_behindBlanks_22
    rw [r_here h.at hq (by rw [wI_1, if_pos ⟨rfl, rfl⟩]), e_bs]
  · rintro n z ⟨t, h1, h2, rfl, rfl⟩
    have hbody : l_X11_behindBlanks_0 (wI σ 306 21 (i32 t)) = if sn w t = 32 then some (Sum.inl (wI σ 306 21 (i32 t + 1))) else some (Sum.inr (wI σ 306 21 (i32 t))) := by
      unfold l_X11_behindBlanks_0
      have g9 : (wI σ 306 21 (i32 t)).1 306 21 = i32 t := by rw [wI_1, if_pos ⟨rfl, rfl⟩]
      rw [r_here h.at (by omega) g9, e_bs, e_gF, g9, e_pF, wI_wI]
    by_cases htq : t = q
    · right
      subst htq
      refine ⟨_, ?_, rfl⟩
      rw [hbody, if_neg hs.2.2.2]
    · left
      refine ⟨wI σ 306 21 (i32 (t + 1)), q - (t + 1), by omega, ?_, t + 1, by omega, by omega, rfl, rfl⟩
      rw [hbody, if_pos (hs.2.2.1 t h1 (by omega)), i32_1, i32_add]
/-- signs are bytes or nothing -/
theorem sn_cases (hb : ∀ x : Nat, x ∈ w → x < 256) (p : Nat) : (∃ x, w[p]? = some x ∧ x < 256 ∧ p < w.length ∧ sn w p = i32 x) ∨ (w.length ≤ p ∧ sn w p = -1) := by
  by_cases h : p < w.length
  · have hg : w[p]? = some w[p] := List.getElem?_eq_getElem h
    exact Or.inl ⟨w[p], hg, hb _ (List.getElem_mem h), h, sn_in hg⟩
  · exact Or.inr ⟨by omega, sn_out (by omega)⟩
theorem sn_lt {p : Nat} {x : Int32} (h : sn w p = x) (hx : x ≠ -1) : p < w.length := by
  refine Classical.byContradiction (fun q => ?_)
  rw [sn_out (by omega)] at h
  exact hx h.symm
/-- the range of a digit -/
def isDg (x : Int32) : Bool := decide (48 ≤ x.toInt ∧ x.toInt ≤ 57)
theorem c_isDigit {x : Int32} : f_X5_isDigit σ x = some (isDg x) := by
  unfold f_X5_isDigit isDg
  by_cases h1 : x < 48
  · have := (lt32 (k := 48) (by omega)).mp h1
    rw [if_pos h1, e_bs, decide_eq_false (by omega)]; rfl
  · have h1' : ¬ x.toInt < 48 := fun q => h1 ((lt32 (k := 48) (by omega)).mpr q)
    rw [if_neg h1]
    by_cases h2 : 57 < x
    · have := (gt32 (k := 57) (by omega)).mp h2
      rw [if_pos h2, e_bs, decide_eq_false (by omega)]; rfl
    · have h2' : ¬ (57 : Int) < x.toInt := fun q => h2 ((gt32 (k := 57) (by omega)).mpr q)
      rw [if_neg h2, e_bs, decide_eq_true (by omega)]; rfl
theorem r_isDigit {x : Int32} : f_X11_isDigit σ x = some (isDg x) := by
  unfold f_X11_isDigit isDg
  by_cases h1 : x < 48
  · have := (lt32 (k := 48) (by omega)).mp h1
    rw [if_pos h1, e_bs, decide_eq_false (by omega)]; rfl
  · have h1' : ¬ x.toInt < 48 := fun q => h1 ((lt32 (k := 48) (by omega)).mpr q)
    rw [if_neg h1]
    by_cases h2 : 57 < x
    · have := (gt32 (k := 57) (by omega)).mp h2
      rw [if_pos h2, e_bs, decide_eq_false (by omega)]; rfl
    · have h2' : ¬ (57 : Int) < x.toInt := fun q => h2 ((gt32 (k := 57) (by omega)).mpr q)
      rw [if_neg h2, e_bs, decide_eq_true (by omega)]; rfl
/-- what begins a factor -/
def isFa (x : Int32) : Bool := decide ((97 ≤ x.toInt ∧ x.toInt ≤ 102) ∨ x = 82 ∨ x = 40 ∨ x = 91)
theorem c_isFactor {x : Int32} : f_X5_beginsFactor σ x = some (isFa x) := by
  unfold f_X5_beginsFactor isFa
  by_cases hr : 97 ≤ x.toInt ∧ x.toInt ≤ 102
  · rw [if_neg (fun q => by have := (lt32 (k := 97) (by omega)).mp q; omega), if_pos (show x ≤ 102 from (le32 (k := 102) (by omega)).mpr (by omega)), e_bs, decide_eq_true (Or.inl hr)]
    rfl
  · have e1 : (if x < 97 then (some (Sum.inl ())) else (if x ≤ 102 then (some (Sum.inr (Sum.inl ()))) else (some (Sum.inl ()))) : Option (Unit ⊕ (Unit ⊕ Bool))) = some (Sum.inl ()) := by
      by_cases h1 : x < 97
      · rw [if_pos h1]
      · have h1' : ¬ x.toInt < 97 := fun q => h1 ((lt32 (k := 97) (by omega)).mpr q)
        rw [if_neg h1, if_neg (show ¬ x ≤ 102 from fun q => hr ⟨by omega, (le32 (k := 102) (by omega)).mp q⟩)]
    rw [e1, e_bs]
    show (j_X5_beginsFactor_12 x).bind _ = _
    unfold j_X5_beginsFactor_12
    by_cases h1 : x = 82
    · rw [if_pos h1, e_bs, decide_eq_true (Or.inr (Or.inl h1))]; rfl
    · rw [if_neg h1]
      by_cases h2 : x = 40
      · rw [if_pos h2, e_bs, decide_eq_true (Or.inr (Or.inr (Or.inl h2)))]; rfl
      · rw [if_neg h2]
        by_cases h3 : x = 91
        · rw [if_pos h3, e_bs, decide_eq_true (Or.inr (Or.inr (Or.inr h3)))]; rfl
        · rw [if_neg h3, e_bs, decide_eq_false (fun q => by rcases q with q | q | q | q; exact hr q; exact h1 q; exact h2 q; exact h3 q)]; rfl
theorem r_isFactor {x : Int32} : f_X11_isFactor σ x = some (isFa x) := by
  unfold f_X11_isFactor isFa
  by_cases hr : 97 ≤ x.toInt ∧ x.toInt ≤ 102
  · rw [if_neg (fun q => by have := (lt32 (k := 97) (by omega)).mp q; omega), if_pos (show x ≤ 102 from (le32 (k := 102) (by omega)).mpr (by omega)), e_bs, decide_eq_true (Or.inl hr)]
    rfl
  · have e1 : (if x < 97 then (some (Sum.inl ())) else (if x ≤ 102 then (some (Sum.inr (Sum.inl ()))) else (some (Sum.inl ()))) : Option (Unit ⊕ (Unit ⊕ Bool))) = some (Sum.inl ()) := by
      by_cases h1 : x < 97
      · rw [if_pos h1]
      · have h1' : ¬ x.toInt < 97 := fun q => h1 ((lt32 (k := 97) (by omega)).mpr q)
        rw [if_neg h1, if_neg (show ¬ x ≤ 102 from fun q => hr ⟨by omega, (le32 (k := 102) (by omega)).mp q⟩)]
    rw [e1, e_bs]
    show (j_X11_isFactor_12 x).bind _ = _
    unfold j_X11_isFactor_12
    by_cases h1 : x = 82
    · rw [if_pos h1, e_bs, decide_eq_true (Or.inr (Or.inl h1))]; rfl
    · rw [if_neg h1]
      by_cases h2 : x = 40
      · rw [if_pos h2, e_bs, decide_eq_true (Or.inr (Or.inr (Or.inl h2)))]; rfl
      · rw [if_neg h2]
        by_cases h3 : x = 91
        · rw [if_pos h3, e_bs, decide_eq_true (Or.inr (Or.inr (Or.inr h3)))]; rfl
        · rw [if_neg h3, e_bs, decide_eq_false (fun q => by rcases q with q | q | q | q; exact hr q; exact h1 q; exact h2 q; exact h3 q)]; rfl
theorem isFa_lt {p : Nat} (h : isFa (sn w p) = true) : p < w.length := sn_lt rfl (fun q => by rw [q] at h; exact absurd h (by decide))
theorem isDg_lt {p : Nat} (h : isDg (sn w p) = true) : p < w.length := sn_lt rfl (fun q => by rw [q] at h; exact absurd h (by decide))
end SGN
end
section
/-! texts: states of both readers; powers -/
section TST
variable {σ : Mem} {G : GD} {R : Nat → Nat → Int} {w : List Nat}
/-- the class's ground: laws, text, registers -/
def BC (G : GD) (R : Nat → Nat → Int) (w : List Nat) (σ : Mem) : Prop := CPoly G σ ∧ CTx σ w ∧ (∀ r, r < 10 → H6 σ (6 + r) (R r)) ∧ σ.1 2 0 = i32 (gn G)
def FRx (P : Nat → Prop) (σ τ : Mem) : Prop := (∀ x, x ≠ 144 → τ.1 x = σ.1 x) ∧ (∀ c, c ≠ 0 → c ≠ 1 → c ≠ 9 → c ≠ 10 → τ.1 144 c = σ.1 144 c) ∧ ∀ x, ¬ P x → τ.2 x = σ.2 x
theorem FRx.refl {P : Nat → Prop} : FRx P σ σ := ⟨fun _ _ => rfl, fun _ _ _ _ _ => rfl, fun _ _ => rfl⟩
theorem FRx.trans {P : Nat → Prop} {τ υ : Mem} (h : FRx P σ τ) (k : FRx P τ υ) : FRx P σ υ := ⟨fun x h1 => (k.1 x h1).trans (h.1 x h1), fun c h1 h2 h3 h4 => (k.2.1 c h1 h2 h3 h4).trans (h.2.1 c h1 h2 h3 h4), fun x h1 => (k.2.2 x h1).trans (h.2.2 x h1)⟩
theorem FRx.mono {P Q : Nat → Prop} {τ : Mem} (h : FRx P σ τ) (k : ∀ x, P x → Q x) : FRx Q σ τ := ⟨h.1, h.2.1, fun x hx => h.2.2 x (fun q => hx (k x q))⟩
theorem FRx.fld {P : Nat → Prop} {c : Nat} {v : Int32} (h : c = 0 ∨ c = 1 ∨ c = 9 ∨ c = 10) : FRx P σ (wI σ 144 c v) := ⟨fun x hx => by funext y; rw [wI_1, if_neg (fun q => hx q.1)], fun d h1 h2 h3 h4 => by rw [wI_1, if_neg (by omega)], fun _ _ => rfl⟩
theorem OL.frx {P Q : Nat → Prop} {τ : Mem} (h : OL P σ τ) (k : ∀ x, P x → Q x) : FRx Q σ τ := ⟨fun x _ => by rw [h.1], fun c _ _ _ _ => by rw [h.1], fun x hx => h.2 x (fun q => hx (k x q))⟩
theorem BC.frx {P : Nat → Prop} {τ : Mem} (h : BC G R w σ) (f : FRx P σ τ) (hP : ∀ x, P x → 72 ≤ x) : BC G R w τ := by
  obtain ⟨h1, h2, h3, h4⟩ := h
  have g : ∀ x, x < 72 → τ.2 x = σ.2 x := fun x hx => f.2.2 x (fun q => by have := hP x q; omega)
  refine ⟨fun k hk => (h1 k hk).of (f.1 _ (by omega)) (f.1 _ (by omega)) (g _ (by omega)) (f.1 _ (by omega)), ⟨h2.1, by rw [f.2.1 8 (by omega) (by omega) (by omega) (by omega)]; exact h2.2.1, fun q x hq => by rw [f.1 175 (by omega)]; exact h2.2.2 q x hq⟩, fun r hr k hk => by rw [g _ (by omega)]; exact h3 r hr k hk, by rw [f.1 2 (by omega)]; exact h4⟩
theorem BC.poly (hG : GOK G) (h : BC G R w σ) : PolyOK G σ := CPoly.ok hG h.1
def SmV (G : GD) (v : Nat → Int) : Prop := (∀ i, -999 ≤ v i ∧ v i ≤ 999) ∧ ∀ i, gn G ≤ i → v i = 0
theorem SmV.sb {v : Nat → Int} (h : SmV G v) : SB G 999 v := fun j _ _ => h.1 j
theorem SmV.z6 {v : Nat → Int} (h : SmV G v) : Z6 G v := fun k h1 _ => h.2 k h1
theorem SmV.O : SmV G O := ⟨fun _ => ⟨by show (-999 : Int) ≤ 0; omega, by show (0 : Int) ≤ 999; omega⟩, fun _ _ => rfl⟩
/-- the least row that is the same as longs -/
def nrm (G : GD) (A : Nat → Int) : Nat → Int := fun i => if i < gn G then (oi (A i)).toInt else 0
theorem nrm_sm {A : Nat → Int} (h : isEl G A = true) : SmV G (nrm G A) := ⟨fun i => by
  unfold nrm
  by_cases hi : i < gn G
  · rw [if_pos hi]; exact isEl_int h hi
  · rw [if_neg hi]; omega, fun i hi => by unfold nrm; rw [if_neg (by omega)]⟩
theorem nrm_oi {A : Nat → Int} {i : Nat} (hi : i < gn G) : oi (nrm G A i) = oi (A i) := by
  unfold nrm
  rw [if_pos hi]
  exact Int64.ofInt_toInt _
theorem nrm_congr {A B : Nat → Int} (h : EqG G A B) : nrm G A = nrm G B := by
  funext i
  unfold nrm
  by_cases hi : i < gn G
  · rw [if_pos hi, if_pos hi, h i hi]
  · rw [if_neg hi, if_neg hi]
theorem nrm_6 {A : Nat → Int} (zA : Z6 G A) {i : Nat} (hi : i < 6) : oi (nrm G A i) = oi (A i) := by
  by_cases h : i < gn G
  · exact nrm_oi h
  · rw [zA i (by omega) hi]
    unfold nrm
    rw [if_neg h]
theorem H6.nrm {a : Nat} {A : Nat → Int} (h : H6 σ a A) (zA : Z6 G A) : H6 σ a (nrm G A) := fun k hk => by rw [h k hk, nrm_6 zA hk]
theorem PS_oi {f g : SF} (h : ∀ s i, s < 100 → i < 6 → oi (f s i) = oi (g s i)) : PS σ f = PS σ g := by
  refine Prod.ext rfl ?_
  funext x y
  show (if x = 313 ∧ y < 600 then oi (f (y / 6) (y % 6)) else σ.2 x y) = (if x = 313 ∧ y < 600 then oi (g (y / 6) (y % 6)) else σ.2 x y)
  by_cases hx : x = 313 ∧ y < 600
  · rw [if_pos hx, if_pos hx, h (y / 6) (y % 6) (by omega) (by omega)]
  · rw [if_neg hx, if_neg hx]
theorem PS_nrm {f : SF} {s : Nat} {B : Nat → Int} (h : f s = B) (zB : Z6 G B) : PS σ f = PS σ (uS f s (nrm G B)) := PS_oi (fun r i _ hi => by
  by_cases hr : r = s
  · rw [hr, uS_self, h, nrm_6 zB hi]
  · rw [uS_ne hr])
/-- the reference's ground -/
def BR (G : GD) (R : Nat → Nat → Int) (w : List Nat) (ρ : Mem) : Prop := MG ρ G ∧ M0 ρ ∧ RTx ρ w ∧ RB ρ 307 0 (G, R)
def FRr (σ τ : Mem) : Prop := (∀ x, x ≠ 306 → τ.1 x = σ.1 x) ∧ (∀ c, c ≠ 19 → c ≠ 20 → c ≠ 21 → c ≠ 23 → c ≠ 24 → c ≠ 25 → τ.1 306 c = σ.1 306 c) ∧ τ.2 = σ.2
theorem FRr.refl : FRr σ σ := ⟨fun _ _ => rfl, fun _ _ _ _ _ _ _ => rfl, rfl⟩
theorem FRr.trans {τ υ : Mem} (h : FRr σ τ) (k : FRr τ υ) : FRr σ υ := ⟨fun x h1 => (k.1 x h1).trans (h.1 x h1), fun c h1 h2 h3 h4 h5 h6 => (k.2.1 c h1 h2 h3 h4 h5 h6).trans (h.2.1 c h1 h2 h3 h4 h5 h6), k.2.2.trans h.2.2⟩
theorem FRr.fld {c : Nat} {v : Int32} (h : c = 19 ∨ c = 20 ∨ c = 21 ∨ c = 23 ∨ c = 24 ∨ c = 25) : FRr σ (wI σ 306 c v) := ⟨fun x hx => by funext y; rw [wI_1, if_neg (fun q => hx q.1)], fun d h1 h2 h3 h4 h5 h6 => by rw [wI_1, if_neg (by omega)], rfl⟩
theorem BR.frr {τ : Mem} (h : BR G R w σ) (f : FRr σ τ) : BR G R w τ := by
  obtain ⟨h1, h2, h3, h4⟩ := h
  refine ⟨?_, fun m hm => by rw [f.2.2]; exact h2 m hm, ⟨h3.1, by rw [f.2.1 22 (by omega) (by omega) (by omega) (by omega) (by omega) (by omega)]; exact h3.2.1, fun q x hq => by rw [f.1 317 (by omega)]; exact h3.2.2 q x hq⟩, h4.eqs (f.1 307 (by omega))⟩
  unfold MG
  rw [f.1 307 (by omega)]
  exact h1
/-- the reference goes on, nothing wrong, nothing over -/
def LV (ρ : Mem) (d p b : Nat) : Prop := ρ.1 306 21 = i32 p ∧ ρ.1 306 20 = -1 ∧ ρ.1 306 24 = -1 ∧ ρ.1 306 25 = i32 d ∧ (ρ.1 306 23 = i32 b ∧ ρ.1 306 19 = 0)
/-- the class goes on, nothing wrong: where its latest factor ends -/
def BH (σ : Mem) (b : Nat) : Prop := σ.1 144 10 = i32 b ∧ σ.1 144 0 = 0 ∧ σ.1 144 1 = -1
theorem BH.of {τ : Mem} {b : Nat} (h : BH σ b) (e : τ.1 144 = σ.1 144) : BH τ b := by
  unfold BH
  rw [e]
  exact h
theorem BH.at {b : Nat} {v : Int32} (h : BH σ b) : BH (wI σ 144 9 v) b := ⟨by rw [wI_1, if_neg (by omega)]; exact h.1, by rw [wI_1, if_neg (by omega)]; exact h.2.1, by rw [wI_1, if_neg (by omega)]; exact h.2.2⟩
theorem BH.bh {b r : Nat} (h : BH σ b) : BH (wI σ 144 10 (i32 r)) r := ⟨by rw [wI_1, if_pos ⟨rfl, rfl⟩], by rw [wI_1, if_neg (by omega)]; exact h.2.1, by rw [wI_1, if_neg (by omega)]; exact h.2.2⟩
/-- it goes on with ones: over at q -/
def DE (w : List Nat) (ρ : Mem) (q d p : Nat) : Prop := q ≤ p ∧ p ≤ w.length ∧ ρ.1 306 21 = i32 p ∧ ρ.1 306 24 = i32 q ∧ ρ.1 306 25 = i32 d ∧ (ρ.1 306 20 = -1 ∨ ∃ t, q ≤ t ∧ t ≤ 200 ∧ ρ.1 306 20 = i32 t)
/-- something is wrong -/
def WR (ρ : Mem) (k t d : Nat) : Prop := t ≤ 200 ∧ ρ.1 306 19 = i32 k ∧ ρ.1 306 20 = i32 t ∧ ρ.1 306 24 = -1 ∧ ρ.1 306 25 = i32 d
theorem ne_m1 {t : Nat} (h : t < 2 ^ 31) : ¬ i32 t = -1 := fun q => by
  have := congrArg Int32.toInt q
  rw [i32_toInt h] at this
  have h9 : (-1 : Int32).toInt = -1 := by decide
  rw [h9] at this
  omega
theorem r_isWrong_no (h : σ.1 306 20 = -1) : f_X11_isWrong σ = some false := by
  unfold f_X11_isWrong
  rw [e_gF, h, if_pos rfl]
theorem r_isWrong_yes {t : Nat} (ht : t < 2 ^ 31) (h : σ.1 306 20 = i32 t) : f_X11_isWrong σ = some true := by
  unfold f_X11_isWrong
  rw [e_gF, h, if_neg (ne_m1 ht)]
theorem r_errs_live {d p b k t : Nat} {f : SF} (h : LV σ d p b) (ht : t ≤ 200) : ∃ ρ', f_X11_errs (PS σ f) (i32 k) (i32 t) = some (PS ρ' f) ∧ FRr σ ρ' ∧ WR ρ' k t d ∧ ρ'.1 306 21 = σ.1 306 21 := by
  have e : f_X11_isWrong (PS σ f) = some false := r_isWrong_no h.2.1
  unfold f_X11_errs
  rw [e, e_bs, if_neg (by decide), e_pF, e_pF, PS_wI, PS_wI]
  refine ⟨_, rfl, (FRr.fld (by omega)).trans (FRr.fld (by omega)), ⟨ht, ?_, ?_, ?_, ?_⟩, ?_⟩
  · rw [wI_1, if_neg (by omega), wI_1, if_pos ⟨rfl, rfl⟩]
  · rw [wI_1, if_pos ⟨rfl, rfl⟩]
  · rw [wI_1, if_neg (by omega), wI_1, if_neg (by omega)]; exact h.2.2.1
  · rw [wI_1, if_neg (by omega), wI_1, if_neg (by omega)]; exact h.2.2.2.1
  · rw [wI_1, if_neg (by omega), wI_1, if_neg (by omega)]
theorem r_errs_dead {q d p k t : Nat} {f : SF} (h : DE w σ q d p) (ht : t ≤ 200) (hq : q ≤ t) : ∃ ρ', f_X11_errs (PS σ f) (i32 k) (i32 t) = some (PS ρ' f) ∧ FRr σ ρ' ∧ DE w ρ' q d p ∧ ρ'.1 306 20 ≠ -1 := by
  obtain ⟨a1, a2, a3, a4, a5, a6⟩ := h
  unfold f_X11_errs
  rcases a6 with a6 | ⟨t', t1, t2, t3⟩
  · have e : f_X11_isWrong (PS σ f) = some false := r_isWrong_no a6
    rw [e, e_bs, if_neg (by decide), e_pF, e_pF, PS_wI, PS_wI]
    refine ⟨_, rfl, (FRr.fld (by omega)).trans (FRr.fld (by omega)), ⟨a1, a2, ?_, ?_, ?_, Or.inr ⟨t, hq, ht, ?_⟩⟩, ?_⟩
    · rw [wI_1, if_neg (by omega), wI_1, if_neg (by omega)]; exact a3
    · rw [wI_1, if_neg (by omega), wI_1, if_neg (by omega)]; exact a4
    · rw [wI_1, if_neg (by omega), wI_1, if_neg (by omega)]; exact a5
    · rw [wI_1, if_pos ⟨rfl, rfl⟩]
    · rw [wI_1, if_pos ⟨rfl, rfl⟩]; exact ne_m1 (by omega)
  · have e : f_X11_isWrong (PS σ f) = some true := r_isWrong_yes (t := t') (by omega) t3
    rw [e, e_bs, if_pos rfl]
    exact ⟨σ, rfl, FRr.refl, ⟨a1, a2, a3, a4, a5, Or.inr ⟨t', t1, t2, t3⟩⟩, by rw [t3]; exact ne_m1 (by omega)⟩
theorem r_checks_live {d p b s : Nat} {f : SF} {B : Nat → Int} (hG : GOK G) (hM : MG σ G) (h : LV σ d p b) (hp : p ≤ w.length) (hw : w.length ≤ 200) (hb : b ≤ p) (hs : s < 100) (hB : f s = B) (zB : Z6 G B) : (isEl G B = true ∧ f_X11_checks (PS σ f) (i32 s) = some (PS σ (uS f s (nrm G B)))) ∨ (isEl G B = false ∧ ∃ ρ', f_X11_checks (PS σ f) (i32 s) = some (PS ρ' (uS f s O)) ∧ FRr σ ρ' ∧ DE w ρ' b d p) := by
  have e1 : f_X11_isElement (PS σ f) (i32 s) = some (isEl G B) := by rw [p_isElement hM hG hs, hB]
  have g24 : (PS σ f).1 306 24 = -1 := h.2.2.1
  cases hel : isEl G B with
  | true =>
    refine Or.inl ⟨rfl, ?_⟩
    unfold f_X11_checks
    rw [e_gF, g24, if_pos rfl, e1, e_bs, hel, if_pos rfl, ← PS_nrm hB zB]
  | false =>
    refine Or.inr ⟨rfl, wI σ 306 24 (i32 b), ?_, FRr.fld (by omega), hb, hp, ?_, ?_, ?_, ?_⟩
    · unfold f_X11_checks
      have g23 : (PS σ f).1 306 23 = i32 b := h.2.2.2.2.1
      have e2 : f_X11_ones (PS (wI σ 306 24 (i32 b)) f) (i32 s) = some (PS (wI σ 306 24 (i32 b)) (uS f s (fun _ => 0))) := p_ones hs
      rw [e_gF, g24, if_pos rfl, e1, e_bs, hel, if_neg (by decide), e_gF, g23, e_pF, PS_wI, e2, e_bs]
      rfl
    · rw [wI_1, if_neg (by omega)]; exact h.1
    · rw [wI_1, if_pos ⟨rfl, rfl⟩]
    · rw [wI_1, if_neg (by omega)]; exact h.2.2.2.1
    · left; rw [wI_1, if_neg (by omega)]; exact h.2.1
theorem r_checks_dead {q d p s : Nat} {f : SF} (h : DE w σ q d p) (hw : w.length ≤ 200) (hs : s < 100) : f_X11_checks (PS σ f) (i32 s) = some (PS σ (uS f s O)) := by
  unfold f_X11_checks
  have g24 : (PS σ f).1 306 24 = i32 q := h.2.2.2.1
  have h1 := h.1
  have h2 := h.2.1
  rw [e_gF, g24, if_neg (ne_m1 (by omega)), p_ones hs, e_bs]
  rfl
/-! powers -/
def dig (w : List Nat) (t : Nat) : Nat := (sn w t).toInt.toNat - 48
def acc (w : List Nat) (q : Nat) : Nat → Nat
  | 0 => 0
  | n + 1 => if acc w q n ≤ 99 then 10 * acc w q n + dig w (q + n) else acc w q n
theorem dig_eq {t : Nat} (h : isDg (sn w t) = true) : dig w t ≤ 9 ∧ sn w t = i32 (48 + dig w t) := by
  have h1 := of_decide_eq_true h
  have h2 := i32_of (x := sn w t) (by omega)
  unfold dig
  refine ⟨by omega, ?_⟩
  rw [show 48 + ((sn w t).toInt.toNat - 48) = (sn w t).toInt.toNat by omega]
  exact h2
theorem acc_le {q : Nat} : ∀ n, (∀ t, q ≤ t → t < q + n → isDg (sn w t) = true) → acc w q n ≤ 999
  | 0, _ => Nat.zero_le _
  | n + 1, h => by
    have h1 := acc_le n (fun t h1 h2 => h t h1 (by omega))
    have h2 := (dig_eq (h (q + n) (by omega) (by omega))).1
    show (if acc w q n ≤ 99 then 10 * acc w q n + dig w (q + n) else acc w q n) ≤ 999
    split <;> omega
def DgE (w : List Nat) (q r : Nat) : Prop := q ≤ r ∧ r ≤ w.length ∧ (∀ t, q ≤ t → t < r → isDg (sn w t) = true) ∧ isDg (sn w r) = false
theorem DgE_ex (w : List Nat) : ∀ n p, p ≤ w.length → w.length - p ≤ n → ∃ q, DgE w p q
  | 0, p, hp, hn => ⟨p, Nat.le_refl _, hp, fun t h1 h2 => by omega, by rw [sn_out (by omega)]; decide⟩
  | n + 1, p, hp, hn => by
    cases h : isDg (sn w p) with
    | true =>
      have hlt := isDg_lt h
      obtain ⟨q, h1, h2, h3, h4⟩ := DgE_ex w n (p + 1) (by omega) (by omega)
      refine ⟨q, by omega, h2, fun t t1 t2 => ?_, h4⟩
      by_cases htp : t = p
      · rw [htp]; exact h
      · exact h3 t (by omega) t2
    | false => exact ⟨p, Nat.le_refl _, hp, fun t h1 h2 => by omega, h⟩
theorem c_digits {q r : Nat} (h : CTx σ w) (h9 : σ.1 144 9 = i32 q) (hd : DgE w q r) : loopO (fun (z28 : (Mem × Int32 × Int32)) => l_X5_readPower_81 z28.1 z28.2.1 z28.2.2) (σ, 0, 0) = some (wI σ 144 9 (i32 r), i32 (min (acc w q (r - q)) 100)) := by
  have hl := h.1
  have hr := hd.2.1
  have hqr := hd.1
  have hloop := loop_inv (body := fun (z28 : (Mem × Int32 × Int32)) => l_X5_readPower_81 z28.1 z28.2.1 z28.2.2) (fun n z => ∃ t, q + t ≤ r ∧ n = r - (q + t) ∧ z = (wI σ 144 9 (i32 (q + t)), i32 (min (acc w q t) 100), i32 t)) (fun x => x = (wI σ 144 9 (i32 r), i32 (min (acc w q (r - q)) 100))) ?_ (r - q) (σ, 0, 0) ⟨0, by omega, rfl, by rw [Nat.add_zero, wI_id h9]; rfl⟩
  · obtain ⟨x, e, rfl⟩ := hloop
    exact e
  · rintro n z ⟨t, ht, rfl, rfl⟩
    have g9 : (wI σ 144 9 (i32 (q + t))).1 144 9 = i32 (q + t) := by rw [wI_1, if_pos ⟨rfl, rfl⟩]
    have hsg := c_sign (h.at (v := i32 (q + t))) (p := q + t) (by omega) g9
    by_cases htr : q + t = r
    · right
      have htr' : t = r - q := by omega
      refine ⟨_, ?_, rfl⟩
      show l_X5_readPower_81 (wI σ 144 9 (i32 (q + t))) (i32 (min (acc w q t) 100)) (i32 t) = _
      unfold l_X5_readPower_81
      rw [hsg, e_bs, c_isDigit, e_bs, htr, hd.2.2.2, if_neg (show ¬ (false = true) by decide), htr']
      split <;> rfl
    · left
      have hdg := hd.2.2.1 (q + t) (by omega) (by omega)
      obtain ⟨d1, d2⟩ := dig_eq hdg
      have ha := acc_le (w := w) (q := q) t (fun u h1 h2 => hd.2.2.1 u h1 (by omega))
      refine ⟨(wI σ 144 9 (i32 (q + (t + 1))), i32 (min (acc w q (t + 1)) 100), i32 (t + 1)), r - (q + (t + 1)), by omega, ?_, t + 1, by omega, rfl, rfl⟩
      show l_X5_readPower_81 (wI σ 144 9 (i32 (q + t))) (i32 (min (acc w q t) 100)) (i32 t) = _
      unfold l_X5_readPower_81
      have hnum : i32 (min (acc w q t) 100) * 10 + i32 (48 + dig w (q + t)) - 48 = i32 (min (acc w q t) 100 * 10 + dig w (q + t)) := by
        rw [show (10 : Int32) = i32 10 from rfl, i32_mul, i32_add, show (48 : Int32) = i32 48 from rfl, i32_sub (by omega)]
        congr 1
        omega
      have hmin : min (min (acc w q t) 100 * 10 + dig w (q + t)) 100 = min (acc w q (t + 1)) 100 := by
        show _ = min (if acc w q t ≤ 99 then 10 * acc w q t + dig w (q + t) else acc w q t) 100
        by_cases hc : acc w q t ≤ 99
        · rw [if_pos hc]; omega
        · rw [if_neg hc]; omega
      rw [show (200 : Int32) = i32 200 from rfl, if_neg (i_nle (by omega) (by omega)), hsg, e_bs, c_isDigit, e_bs, hdg, if_pos rfl, e_bs, d2, hnum, show (100 : Int32) = i32 100 from rfl, e_min (by omega) (by omega), e_bs, hmin, e_gF, g9, e_pF, wI_wI, i32_1, i32_add, i32_add, Nat.add_assoc]
theorem r_digits {f : SF} {q r : Nat} (h : RTx σ w) (h9 : σ.1 306 21 = i32 q) (hd : DgE w q r) : loopO (fun (z24 : (Mem × Int32)) => l_X11_readPower_102 z24.1 z24.2) (PS σ f, 0) = some (PS (wI σ 306 21 (i32 r)) f, i32 (acc w q (r - q))) := by
  have hl := h.1
  have hr := hd.2.1
  have hqr := hd.1
  have hloop := loop_inv (body := fun (z24 : (Mem × Int32)) => l_X11_readPower_102 z24.1 z24.2) (fun n z => ∃ t, q + t ≤ r ∧ n = r - (q + t) ∧ z = (PS (wI σ 306 21 (i32 (q + t))) f, i32 (acc w q t))) (fun x => x = (PS (wI σ 306 21 (i32 r)) f, i32 (acc w q (r - q)))) ?_ (r - q) (PS σ f, 0) ⟨0, by omega, rfl, by rw [Nat.add_zero, wI_id h9]; rfl⟩
  · obtain ⟨x, e, rfl⟩ := hloop
    exact e
  · rintro n z ⟨t, ht, rfl, rfl⟩
    have g9 : (PS (wI σ 306 21 (i32 (q + t))) f).1 306 21 = i32 (q + t) := by rw [PS_1, wI_1, if_pos ⟨rfl, rfl⟩]
    have hsg := r_here (σ := PS (wI σ 306 21 (i32 (q + t))) f) (h.at (v := i32 (q + t))) (p := q + t) (by omega) g9
    by_cases htr : q + t = r
    · right
      have htr' : t = r - q := by omega
      refine ⟨_, ?_, rfl⟩
      show l_X11_readPower_102 (PS (wI σ 306 21 (i32 (q + t))) f) (i32 (acc w q t)) = _
      unfold l_X11_readPower_102
      rw [hsg, e_bs, r_isDigit, e_bs, htr, hd.2.2.2, if_neg (by decide), htr']
    · left
      have hdg := hd.2.2.1 (q + t) (by omega) (by omega)
      obtain ⟨d1, d2⟩ := dig_eq hdg
      have ha := acc_le (w := w) (q := q) t (fun u h1 h2 => hd.2.2.1 u h1 (by omega))
      refine ⟨(PS (wI σ 306 21 (i32 (q + (t + 1)))) f, i32 (acc w q (t + 1))), r - (q + (t + 1)), by omega, ?_, t + 1, by omega, rfl, rfl⟩
      show l_X11_readPower_102 (PS (wI σ 306 21 (i32 (q + t))) f) (i32 (acc w q t)) = _
      unfold l_X11_readPower_102
      have hv : (if i32 (acc w q t) ≤ 99 then ((f_X11_here (PS (wI σ 306 21 (i32 (q + t))) f)).bind (fun (v30 : Int32) => some (((10 * i32 (acc w q t)) + v30) - 48))) else (some (i32 (acc w q t))) : Option Int32) = some (i32 (acc w q (t + 1))) := by
        show _ = some (i32 (if acc w q t ≤ 99 then 10 * acc w q t + dig w (q + t) else acc w q t))
        by_cases hc : acc w q t ≤ 99
        · rw [if_pos (show i32 (acc w q t) ≤ 99 from i_le (b := 99) hc (by omega)), hsg, e_bs, if_pos hc, d2, show (10 : Int32) = i32 10 from rfl, i32_mul, i32_add, show (48 : Int32) = i32 48 from rfl, i32_sub (by omega)]
          congr 2
          omega
        · rw [if_neg (show ¬ i32 (acc w q t) ≤ 99 from i_nle (b := 99) (by omega) (by omega)), if_neg hc]
      rw [hsg] at hv
      rw [hsg, e_bs, r_isDigit, e_bs, hdg, if_pos rfl, hv, e_bs]
      unfold j_X11_readPower_138
      rw [e_gF, g9, e_pF, PS_wI, wI_wI, i32_1, i32_add, Nat.add_assoc]
end TST
end
section
/-! powers read by both -/
section PWR
variable {σ : Mem} {G : GD} {R : Nat → Nat → Int} {w : List Nat}
def PwS (w : List Nat) (p : Nat) (m : Bool) (q3 : Nat) : Prop := ∃ q1 q2, Sk w p q1 ∧ sn w q1 = 94 ∧ q1 < w.length ∧ Sk w (q1 + 1) q2 ∧ ((sn w q2 = 45 ∧ m = true ∧ q2 < w.length ∧ Sk w (q2 + 1) q3) ∨ (sn w q2 ≠ 45 ∧ m = false ∧ q3 = q2))
theorem PwS.range {p : Nat} {m : Bool} {q3 : Nat} (h : PwS w p m q3) : p < q3 ∧ q3 ≤ w.length ∧ sn w q3 ≠ 32 := by
  obtain ⟨q1, q2, h1, h2, h3, h4, h5⟩ := h
  have a1 := h1.1
  have a4 := h4.1
  rcases h5 with ⟨_, _, _, h6⟩ | ⟨_, _, rfl⟩
  · have a6 := h6.1
    exact ⟨by omega, h6.2.1, h6.2.2.2⟩
  · exact ⟨by omega, h4.2.1, h4.2.2.2⟩
theorem Pw_cases {p : Nat} (hp : p ≤ w.length) : (∃ q1, Sk w p q1 ∧ sn w q1 ≠ 94) ∨ ∃ m q3, PwS w p m q3 := by
  obtain ⟨q1, h1⟩ := Sk_ex w (w.length - p) p hp (Nat.le_refl _)
  by_cases h2 : sn w q1 = 94
  · have h3 := sn_lt h2 (by decide)
    obtain ⟨q2, h4⟩ := Sk_ex w (w.length - (q1 + 1)) (q1 + 1) (by omega) (Nat.le_refl _)
    by_cases h5 : sn w q2 = 45
    · have h6 := sn_lt h5 (by decide)
      obtain ⟨q3, h7⟩ := Sk_ex w (w.length - (q2 + 1)) (q2 + 1) (by omega) (Nat.le_refl _)
      exact Or.inr ⟨true, q3, q1, q2, h1, h2, h3, h4, Or.inl ⟨h5, rfl, h6, h7⟩⟩
    · exact Or.inr ⟨false, q2, q1, q2, h1, h2, h3, h4, Or.inr ⟨h5, rfl, rfl⟩⟩
  · exact Or.inl ⟨q1, h1, h2⟩
theorem c_powerA {a p q1 : Nat} (h : CTx σ w) (h9 : σ.1 144 9 = i32 p) (h1 : Sk w p q1) (h2 : sn w q1 ≠ 94) : f_X5_readPower σ a = some (true, wI σ 144 9 (i32 q1)) := by
  unfold f_X5_readPower
  rw [c_skip h h9 h1, e_bq, if_neg h2]
theorem c_powerS {a p q3 : Nat} {m : Bool} (h : CTx σ w) (h9 : σ.1 144 9 = i32 p) (hs : PwS w p m q3) : f_X5_readPower σ a = if isDg (sn w q3) = true then (loopO (fun (z28 : (Mem × Int32 × Int32)) => l_X5_readPower_81 z28.1 z28.2.1 z28.2.2) (wI σ 144 9 (i32 q3), 0, 0) : Option (Mem × Int32)).bind (fun (z14 : (Mem × Int32)) => j_X5_readPower_135 a m (i32 q3) z14.1 z14.2) else some (false, wI (wI (wI σ 144 9 (i32 q3)) 144 0 1) 144 1 (i32 q3)) := by
  obtain ⟨q1, q2, h1, h2, h3, h4, h5⟩ := hs
  have g : ∀ t, (wI σ 144 9 (i32 t)).1 144 9 = i32 t := fun t => by rw [wI_1, if_pos ⟨rfl, rfl⟩]
  have tail : ∀ t, Sk w t q3 → j_X5_readPower_50 a m (wI σ 144 9 (i32 t)) = if isDg (sn w q3) = true then (loopO (fun (z28 : (Mem × Int32 × Int32)) => l_X5_readPower_81 z28.1 z28.2.1 z28.2.2) (wI σ 144 9 (i32 q3), 0, 0) : Option (Mem × Int32)).bind (fun (z14 : (Mem × Int32)) => j_X5_readPower_135 a m (i32 q3) z14.1 z14.2) else some (false, wI (wI (wI σ 144 9 (i32 q3)) 144 0 1) 144 1 (i32 q3)) := by
    intro t ht
    unfold j_X5_readPower_50
    rw [c_skip h.at (g t) ht, e_bq, wI_wI, c_isDigit, e_bs, e_gF, g]
    cases hd : isDg (sn w q3) with
    | true => rw [if_pos rfl, if_pos rfl]
    | false =>
      rw [if_neg (by decide), if_neg (by decide)]
      unfold f_X5_fail
      rw [e_gF, g, e_pF, e_pF, e_bq]
  unfold f_X5_readPower
  rw [c_skip h h9 h1, e_bq, if_pos h2, e_gF, g, e_pF, wI_wI, i32_1, i32_add, c_skip h.at (g _) h4, e_bq, wI_wI]
  rcases h5 with ⟨h5, rfl, h6, h7⟩ | ⟨h5, rfl, rfl⟩
  · rw [if_pos h5, e_bs]
    unfold j_X5_readPower_35
    rw [if_pos rfl, e_gF, g, e_pF, wI_wI, i32_1, i32_add, e_bs]
    exact tail (q2 + 1) h7
  · rw [if_neg h5, e_bs]
    unfold j_X5_readPower_35
    rw [if_neg (by decide), e_bs]
    exact tail q3 (Sk_same h4.2.1 h4.2.2.2)
theorem r_powerA {f : SF} {s p q1 : Nat} (h : RTx σ w) (h20 : σ.1 306 20 = -1) (h9 : σ.1 306 21 = i32 p) (h1 : Sk w p q1) (h2 : sn w q1 ≠ 94) : f_X11_readPower (PS σ f) (i32 s) = some (PS σ f) := by
  unfold f_X11_readPower
  have e : f_X11_isWrong (PS σ f) = some false := r_isWrong_no h20
  have g21 : (PS σ f).1 306 21 = i32 p := h9
  rw [e, e_bs, if_neg (by decide), e_gF, g21, r_skip (σ := PS σ f) h g21 h1, e_bq, if_neg h2, e_pF, wI_wI, wI_id g21]
theorem r_powerS {f : SF} {s p q3 : Nat} {m : Bool} (h : RTx σ w) (h20 : σ.1 306 20 = -1) (h9 : σ.1 306 21 = i32 p) (hs : PwS w p m q3) : f_X11_readPower (PS σ f) (i32 s) = if isDg (sn w q3) = true then (loopO (fun (z24 : (Mem × Int32)) => l_X11_readPower_102 z24.1 z24.2) (PS (wI σ 306 21 (i32 q3)) f, 0) : Option (Mem × Int32)).bind (fun (z15 : (Mem × Int32)) => j_X11_readPower_153 (i32 s) m (i32 q3) z15.1 z15.2) else f_X11_errs (PS (wI σ 306 21 (i32 q3)) f) 1 (i32 q3) := by
  obtain ⟨q1, q2, h1, h2, h3, h4, h5⟩ := hs
  have g : ∀ t, (PS (wI σ 306 21 (i32 t)) f).1 306 21 = i32 t := fun t => by rw [PS_1, wI_1, if_pos ⟨rfl, rfl⟩]
  have tail : q3 ≤ w.length → j_X11_readPower_72 (i32 s) m (PS (wI σ 306 21 (i32 q3)) f) = if isDg (sn w q3) = true then (loopO (fun (z24 : (Mem × Int32)) => l_X11_readPower_102 z24.1 z24.2) (PS (wI σ 306 21 (i32 q3)) f, 0) : Option (Mem × Int32)).bind (fun (z15 : (Mem × Int32)) => j_X11_readPower_153 (i32 s) m (i32 q3) z15.1 z15.2) else f_X11_errs (PS (wI σ 306 21 (i32 q3)) f) 1 (i32 q3) := by
    intro ht
    unfold j_X11_readPower_72
    rw [e_gF, g, r_here (σ := PS (wI σ 306 21 (i32 q3)) f) (h.at (v := i32 q3)) ht (g q3), e_bs, r_isDigit, e_bs]
    cases hd : isDg (sn w q3) with
    | true => rw [if_pos rfl, if_pos rfl]
    | false =>
      rw [if_neg (by decide), if_neg (by decide), e_gF, g]
      cases f_X11_errs (PS (wI σ 306 21 (i32 q3)) f) 1 (i32 q3) <;> rfl
  have e : f_X11_isWrong (PS σ f) = some false := r_isWrong_no h20
  have g21 : (PS σ f).1 306 21 = i32 p := h9
  unfold f_X11_readPower
  rw [e, e_bs, if_neg (by decide), e_gF, g21, r_skip (σ := PS σ f) h g21 h1, e_bq, if_pos h2, e_gF, PS_wI, g, e_pF, PS_wI, wI_wI, i32_1, i32_add, r_skip (σ := PS (wI σ 306 21 (i32 (q1 + 1))) f) (h.at (v := i32 (q1 + 1))) (g _) h4, e_bq, PS_wI, wI_wI]
  rcases h5 with ⟨h5, rfl, h6, h7⟩ | ⟨h5, rfl, rfl⟩
  · rw [if_pos h5, e_bs]
    unfold j_X11_readPower_52
    rw [if_pos rfl, e_gF, g, e_pF, PS_wI, wI_wI, i32_1, i32_add, r_skip (σ := PS (wI σ 306 21 (i32 (q2 + 1))) f) (h.at (v := i32 (q2 + 1))) (g _) h7, e_bq, PS_wI, wI_wI, e_bs]
    exact tail h7.2.1
  · rw [if_neg h5, e_bs]
    unfold j_X11_readPower_52
    rw [if_neg (by decide), e_bs]
    exact tail h4.2.1
theorem neg99 {v : Nat} (h : v ≤ 99) : (-(i32 v)).toInt64 = oi (-(v : Int)) ∧ (-(i32 v)).toInt = -(v : Int) := by
  have key : (List.range 100).all (fun v => decide ((-(i32 v)).toInt64 = oi (-(v : Int)) ∧ (-(i32 v)).toInt = -(v : Int))) = true := by decide +kernel
  exact of_decide_eq_true (List.all_eq_true.mp key v (List.mem_range.mpr (by omega)))
theorem pw_out (hG : GOK G) {x : Nat → Int} {m : Nat} (hm : gn G ≤ m) : ∀ k, pw G x k m = 0
  | 0 => rfl
  | k + 1 => by
    show mul G (pw G x k) x m = 0
    rw [mul_beyond hG hm]
    exact pw_out hG hm k
/-- the number of a power -/
def pz (m : Bool) (v : Nat) : Int := if m = true then -(v : Int) else v
/-- what the class's raising comes to -/
theorem c_raised {a r b : Nat} {v : Nat → Int} {z : Int} (hG : GOK G) (h : BC G R w σ) (h10 : BH σ b) (ha : ln a = 6) (ha2 : 79 < a) (hA : H6 σ a v) (sv : SmV G v) (hz : -99 ≤ z ∧ z ≤ 99) (h9 : σ.1 144 9 = i32 r) : ∃ τ, FRx (fun x => (72 ≤ x ∧ x ≤ 79) ∨ x = a) σ τ ∧ τ.1 144 9 = i32 r ∧ ((isEl G (QZ G v z) = true ∧ j_X5_readPower_169 a σ (oi z) = some (true, τ) ∧ BH τ r ∧ H6 τ a (nrm G (QZ G v z))) ∨ (isEl G (QZ G v z) = false ∧ j_X5_readPower_169 a σ (oi z) = some (false, τ) ∧ τ.1 144 0 = 5 ∧ τ.1 144 1 = i32 r)) := by
  have hn := hG.2.1
  obtain ⟨τ, e, o, hq⟩ := c_raise hG (h.poly hG) (out := a) ha ha hA (by omega) (rfl : oi z = oi z) hz (M := 999) (by omega) (by omega) sv.sb sv.z6
  have f1 : FRx (fun x => (72 ≤ x ∧ x ≤ 79) ∨ x = a) σ τ := o.frx (fun x hx => by omega)
  have g9 : τ.1 144 9 = i32 r := by rw [o.1]; exact h9
  have hq' : H6 (wI τ 144 10 (i32 r)) a (QZ G v z) := hq
  have e2 := c_isElement (σ := wI τ 144 10 (i32 r)) hG ha hq' QZ_z6
  have f2 : FRx (fun x => (72 ≤ x ∧ x ≤ 79) ∨ x = a) σ (wI τ 144 10 (i32 r)) := f1.trans (FRx.fld (by omega))
  have k9 : (wI τ 144 10 (i32 r)).1 144 9 = i32 r := by rw [wI_1, if_neg (by omega)]; exact g9
  unfold j_X5_readPower_169
  rw [e, e_bs, e_gF, g9, e_pF, e2, e_bs]
  cases hel : isEl G (QZ G v z) with
  | true =>
    refine ⟨wI τ 144 10 (i32 r), f2, k9, Or.inl ⟨rfl, ?_, (h10.of (by rw [o.1])).bh, hq'.nrm QZ_z6⟩⟩
    rw [if_pos rfl, e_bs]
    rfl
  | false =>
    refine ⟨wI (wI (wI τ 144 10 (i32 r)) 144 0 5) 144 1 (i32 r), f2.trans ((FRx.fld (by omega)).trans (FRx.fld (by omega))), by rw [wI_1, if_neg (by omega), wI_1, if_neg (by omega)]; exact k9, Or.inr ⟨rfl, ?_, by rw [wI_1, if_neg (by omega), wI_1, if_pos ⟨rfl, rfl⟩], by rw [wI_1, if_pos ⟨rfl, rfl⟩]⟩⟩
    rw [if_neg (by decide), e_gF, k9]
    unfold f_X5_fail
    rw [e_pF, e_pF, e_bq, if_neg (by decide), e_bs]
    rfl
/-- the reference raises -/
theorem r_raised {f : SF} {s r v : Nat} {m : Bool} {x : Nat → Int} (hG : GOK G) (hJ : Jac G) (h : BR G R w σ) (hs : s + 4 < 100) (hv : v ≤ 99) (hx : f s = x) (sx : SmV G x) (h9 : σ.1 306 21 = i32 r) : ∃ g B, j_X11_readPower_153 (i32 s) m (i32 0) (PS σ f) (i32 v) = f_X11_checks (PS (wI σ 306 23 (i32 r)) g) (i32 s) ∧ g s = B ∧ EqG G B (QZ G x (pz m v)) ∧ Z6 G B ∧ ∀ t, t < s → g t = f t := by
  obtain ⟨hM, h0, hT, _⟩ := h
  have hz : -99 ≤ pz m v ∧ pz m v ≤ 99 := by unfold pz; split <;> omega
  have hm : (if m = true then -(i32 v) else i32 v).toInt = pz m v := by
    unfold pz
    cases m with
    | true => rw [if_pos rfl, if_pos rfl]; exact (neg99 hv).2
    | false => rw [if_neg (by decide), if_neg (by decide)]; exact i32_toInt (by omega)
  have hM' : MG (wI σ 306 23 (i32 r)) G := by
    unfold MG
    have : (wI σ 306 23 (i32 r)).1 307 = σ.1 307 := by funext y; rw [wI_1, if_neg (by omega)]
    rw [this]; exact hM
  obtain ⟨g, e1, g1, k1⟩ := p_raises (σ := wI σ 306 23 (i32 r)) (f := f) hM' hG h0 (s := s) (t := s + 1) (m := if m = true then -(i32 v) else i32 v) (z := pz m v) (by omega) (by omega) (by omega) hm hz (B := 999) (by omega) (by omega) (by rw [hx]; exact sx.sb)
  have e2 : f_X11_copies (PS (wI σ 306 23 (i32 r)) g) (i32 (s + 1)) (i32 s) = some (PS (wI σ 306 23 (i32 r)) (uS g s (g (s + 1)))) := p_copies (by omega) (by omega) (by omega)
  rw [hx] at g1
  refine ⟨uS g s (g (s + 1)), g (s + 1), ?_, uS_self, ?_, ?_, fun t ht => by rw [uS_ne (by omega), k1 t (by omega)]⟩
  · unfold j_X11_readPower_153
    have g9 : (PS σ f).1 306 21 = i32 r := h9
    rw [if_pos (show i32 v ≤ 99 from i_le (b := 99) hv (by omega)), e_gF, g9, e_pF, PS_wI]
    have em : (if m = true then some (-(i32 v)) else some (i32 v) : Option Int32) = some (if m = true then -(i32 v) else i32 v) := by split <;> rfl
    rw [em, e_bs]
    unfold j_X11_readPower_193
    rw [i32_1, i32_add, e1, e_bs, e2, e_bs]
    cases f_X11_checks (PS (wI σ 306 23 (i32 r)) (uS g s (g (s + 1)))) (i32 s) <;> rfl
  · rw [g1]
    exact (raises_Q hG hJ).trans QZ_eq.symm
  · rw [g1]
    exact fun k h1 _ => pw_out hG h1 _
theorem j153_v {s : Nat} {m : Bool} {v11 : Int32} {v : Nat} (hv : v ≤ 99) : j_X11_readPower_153 (i32 s) m v11 σ (i32 v) = j_X11_readPower_153 (i32 s) m (i32 0) σ (i32 v) := by
  unfold j_X11_readPower_153
  rw [if_pos (show i32 v ≤ 99 from i_le (b := 99) hv (by omega)), if_pos (show i32 v ≤ 99 from i_le (b := 99) hv (by omega))]
/-- how both end: wrong alike, over alike -/
def WJ (σ ρ : Mem) (d k t : Nat) : Prop := k ≤ 4 ∧ σ.1 144 0 = i32 k ∧ σ.1 144 1 = i32 t ∧ WR ρ k t d
def OJ (w : List Nat) (σ ρ : Mem) (d t : Nat) : Prop := σ.1 144 0 = 5 ∧ σ.1 144 1 = i32 t ∧ ∃ p, DE w ρ t d p
theorem LV.at {d p b q : Nat} (h : LV σ d p b) : LV (wI σ 306 21 (i32 q)) d q b := ⟨by rw [wI_1, if_pos ⟨rfl, rfl⟩], by rw [wI_1, if_neg (by omega)]; exact h.2.1, by rw [wI_1, if_neg (by omega)]; exact h.2.2.1, by rw [wI_1, if_neg (by omega)]; exact h.2.2.2.1, by rw [wI_1, if_neg (by omega)]; exact h.2.2.2.2.1, by rw [wI_1, if_neg (by omega)]; exact h.2.2.2.2.2⟩
theorem LV.bh {d p b q : Nat} (h : LV σ d p b) : LV (wI σ 306 23 (i32 q)) d p q := ⟨by rw [wI_1, if_neg (by omega)]; exact h.1, by rw [wI_1, if_neg (by omega)]; exact h.2.1, by rw [wI_1, if_neg (by omega)]; exact h.2.2.1, by rw [wI_1, if_neg (by omega)]; exact h.2.2.2.1, by rw [wI_1, if_pos ⟨rfl, rfl⟩], by rw [wI_1, if_neg (by omega)]; exact h.2.2.2.2.2⟩
theorem DE.at {q d p p' : Nat} (h : DE w σ q d p) (h1 : p ≤ p') (h2 : p' ≤ w.length) : DE w (wI σ 306 21 (i32 p')) q d p' := by
  obtain ⟨a1, a2, a3, a4, a5, a6⟩ := h
  refine ⟨by omega, h2, by rw [wI_1, if_pos ⟨rfl, rfl⟩], by rw [wI_1, if_neg (by omega)]; exact a4, by rw [wI_1, if_neg (by omega)]; exact a5, ?_⟩
  rw [wI_1, if_neg (by omega)]
  exact a6
theorem DE.bh {q d p : Nat} {v : Int32} (h : DE w σ q d p) : DE w (wI σ 306 23 v) q d p := by
  obtain ⟨a1, a2, a3, a4, a5, a6⟩ := h
  refine ⟨a1, a2, by rw [wI_1, if_neg (by omega)]; exact a3, by rw [wI_1, if_neg (by omega)]; exact a4, by rw [wI_1, if_neg (by omega)]; exact a5, ?_⟩
  rw [wI_1, if_neg (by omega)]
  exact a6
/-- a power, in both -/
theorem j_power {ρ : Mem} {f : SF} {a s p b bc d : Nat} {v : Nat → Int} (hG : GOK G) (hJ : Jac G) (hC : BC G R w σ) (hR : BR G R w ρ) (hp : p ≤ w.length) (ha : ln a = 6) (ha2 : 79 < a) (hs : s + 4 < 100) (h9 : σ.1 144 9 = i32 p) (h10 : BH σ b) (hL : LV ρ d p b) (hb : b ≤ p) (hA : H6 σ a v) (hf : f s = v) (sv : SmV G v) : ∃ r σ' ρ' f', f_X5_readPower σ a = some (r, σ') ∧ f_X11_readPower (PS ρ f) (i32 s) = some (PS ρ' f') ∧ FRx (fun x => (72 ≤ x ∧ x ≤ 79) ∨ x = a) σ σ' ∧ FRr ρ ρ' ∧ (∀ t, t < s → f' t = f t) ∧ ((∃ p' q b' v', r = true ∧ σ'.1 144 9 = i32 p' ∧ BH σ' b' ∧ LV ρ' d q b' ∧ b' ≤ q ∧ p ≤ q ∧ q ≤ p' ∧ p' ≤ w.length ∧ (∀ t, q ≤ t → t < p' → sn w t = 32) ∧ H6 σ' a v' ∧ SmV G v' ∧ f' s = v') ∨ (∃ k t, r = false ∧ WJ σ' ρ' d k t) ∨ (∃ t, r = false ∧ OJ w σ' ρ' d t ∧ SmV G (f' s))) := by
  have hw := hC.2.1.1
  have hT := hC.2.1
  rcases Pw_cases hp with ⟨q1, h1, h2⟩ | ⟨m, q3, hS⟩
  · refine ⟨true, _, ρ, f, c_powerA hT h9 h1 h2, r_powerA hR.2.2.1 hL.2.1 hL.1 h1 h2, FRx.fld (by omega), FRr.refl, fun _ _ => rfl, Or.inl ⟨q1, p, b, v, rfl, by rw [wI_1, if_pos ⟨rfl, rfl⟩], h10.at, hL, hb, Nat.le_refl _, h1.1, h1.2.1, h1.2.2.1, hA, sv, hf⟩⟩
  · obtain ⟨r1, r2, r3⟩ := hS.range
    have ec := c_powerS (a := a) hT h9 hS
    have er := r_powerS (f := f) (s := s) hR.2.2.1 hL.2.1 hL.1 hS
    cases hd : isDg (sn w q3) with
    | false =>
      rw [hd, if_neg (by decide)] at ec er
      obtain ⟨ρ', e, fr, wr, _⟩ := r_errs_live (f := f) (k := 1) (t := q3) (hL.at (q := q3)) (by omega)
      refine ⟨false, _, ρ', f, ec, by rw [er]; exact e, (FRx.fld (by omega)).trans ((FRx.fld (by omega)).trans (FRx.fld (by omega))), (FRr.fld (by omega)).trans fr, fun _ _ => rfl, Or.inr (Or.inl ⟨1, q3, rfl, by omega, ?_, ?_, wr⟩)⟩
      · rw [wI_1, if_neg (by omega), wI_1, if_pos ⟨rfl, rfl⟩]; rfl
      · rw [wI_1, if_pos ⟨rfl, rfl⟩]
    | true =>
      obtain ⟨r, hdg⟩ := DgE_ex w (w.length - q3) q3 r2 (Nat.le_refl _)
      have hr := hdg.2.1
      have hqr := hdg.1
      have g9 : (wI σ 144 9 (i32 q3)).1 144 9 = i32 q3 := by rw [wI_1, if_pos ⟨rfl, rfl⟩]
      have g21 : (wI ρ 306 21 (i32 q3)).1 306 21 = i32 q3 := by rw [wI_1, if_pos ⟨rfl, rfl⟩]
      rw [hd, if_pos rfl, c_digits hT.at g9 hdg, e_bs, wI_wI] at ec
      rw [hd, if_pos rfl, r_digits hR.2.2.1.at g21 hdg, e_bs, wI_wI] at er
      have ec' : f_X5_readPower σ a = j_X5_readPower_135 a m (i32 q3) (wI σ 144 9 (i32 r)) (i32 (min (acc w q3 (r - q3)) 100)) := ec
      have er' : f_X11_readPower (PS ρ f) (i32 s) = j_X11_readPower_153 (i32 s) m (i32 q3) (PS (wI ρ 306 21 (i32 r)) f) (i32 (acc w q3 (r - q3))) := er
      have hacc := acc_le (w := w) (q := q3) (r - q3) (fun t h1 h2 => hdg.2.2.1 t h1 (by omega))
      by_cases h99 : acc w q3 (r - q3) ≤ 99
      · -- raised
        have hmin : min (acc w q3 (r - q3)) 100 = acc w q3 (r - q3) := by omega
        rw [hmin] at ec'
        have hCr : BC G R w (wI σ 144 9 (i32 r)) := hC.frx (P := fun _ => False) (FRx.fld (by omega)) (fun x hx => hx.elim)
        have hz : -99 ≤ pz m (acc w q3 (r - q3)) ∧ pz m (acc w q3 (r - q3)) ≤ 99 := by unfold pz; split <;> omega
        obtain ⟨τ, ft, t9, hcase⟩ := c_raised (a := a) (r := r) (z := pz m (acc w q3 (r - q3))) hG hCr h10.at ha ha2 (hA : H6 (wI σ 144 9 (i32 r)) a v) sv hz (by rw [wI_1, if_pos ⟨rfl, rfl⟩])
        have e135 : j_X5_readPower_135 a m (i32 q3) (wI σ 144 9 (i32 r)) (i32 (acc w q3 (r - q3))) = j_X5_readPower_169 a (wI σ 144 9 (i32 r)) (oi (pz m (acc w q3 (r - q3)))) := by
          unfold j_X5_readPower_135
          rw [if_pos (show i32 (acc w q3 (r - q3)) ≤ 99 from i_le (b := 99) h99 (by omega))]
          cases m with
          | true =>
            rw [if_pos rfl, e_bs, (neg99 h99).1]
            rfl
          | false =>
            rw [if_neg (by decide), e_bs, n64 (by omega)]
            rfl
        have hRr : BR G R w (wI ρ 306 21 (i32 r)) := hR.frr (FRr.fld (by omega))
        obtain ⟨g, B, e153, gB, hB, zB, kg⟩ := r_raised (σ := wI ρ 306 21 (i32 r)) (f := f) (s := s) (r := r) (m := m) hG hJ hRr hs h99 hf sv (by rw [wI_1, if_pos ⟨rfl, rfl⟩])
        rw [e135] at ec'
        rw [j153_v h99, e153] at er'
        have hLb : LV (wI (wI ρ 306 21 (i32 r)) 306 23 (i32 r)) d r r := (hL.at (q := r)).bh (q := r)
        have hRb : BR G R w (wI (wI ρ 306 21 (i32 r)) 306 23 (i32 r)) := hRr.frr (FRr.fld (by omega))
        have hck := r_checks_live (w := w) (f := g) (s := s) hG hRb.1 hLb hr hw (Nat.le_refl _) (by omega) gB zB
        have hee : isEl G B = isEl G (QZ G v (pz m (acc w q3 (r - q3)))) := isEl_congr hB
        have F1 : FRx (fun x => (72 ≤ x ∧ x ≤ 79) ∨ x = a) σ τ := (FRx.fld (by omega)).trans ft
        have F2 : FRr ρ (wI (wI ρ 306 21 (i32 r)) 306 23 (i32 r)) := (FRr.fld (by omega)).trans (FRr.fld (by omega))
        rcases hcase with ⟨hel, e1, t10, hA'⟩ | ⟨hel, e1, t0, t1⟩
        · rcases hck with ⟨_, e2⟩ | ⟨hel2, _⟩
          · refine ⟨true, τ, _, _, by rw [ec', e1], by rw [er', e2], F1, F2, fun t ht => by rw [uS_ne (by omega)]; exact kg t ht, Or.inl ⟨r, r, r, _, rfl, t9, t10, hLb, Nat.le_refl _, by omega, Nat.le_refl _, hr, fun t h1 h2 => by omega, hA', nrm_sm hel, ?_⟩⟩
            rw [uS_self, nrm_congr hB]
          · rw [hee, hel] at hel2; cases hel2
        · rcases hck with ⟨hel2, _⟩ | ⟨_, ρ', e2, fr2, de2⟩
          · rw [hee, hel] at hel2; cases hel2
          · refine ⟨false, τ, ρ', _, by rw [ec', e1], by rw [er', e2], F1, F2.trans fr2, fun t ht => by rw [uS_ne (by omega)]; exact kg t ht, Or.inr (Or.inr ⟨r, rfl, ⟨t0, t1, r, de2⟩, by rw [uS_self]; exact SmV.O⟩)⟩
      · -- too great a number
        have hmin : min (acc w q3 (r - q3)) 100 = 100 := by omega
        rw [hmin] at ec'
        have ec2 : j_X5_readPower_135 a m (i32 q3) (wI σ 144 9 (i32 r)) (i32 100) = some (false, wI (wI (wI σ 144 9 (i32 r)) 144 0 2) 144 1 (i32 q3)) := by
          unfold j_X5_readPower_135
          rw [if_neg (show ¬ i32 100 ≤ 99 by decide)]
          unfold f_X5_fail
          rw [e_pF, e_pF, e_bq]
        obtain ⟨ρ', e, fr, wr, _⟩ := r_errs_live (f := f) (k := 2) (t := q3) (hL.at (q := r)) (by omega)
        have er2 : j_X11_readPower_153 (i32 s) m (i32 q3) (PS (wI ρ 306 21 (i32 r)) f) (i32 (acc w q3 (r - q3))) = some (PS ρ' f) := by
          unfold j_X11_readPower_153
          rw [if_neg (show ¬ i32 (acc w q3 (r - q3)) ≤ 99 from i_nle (b := 99) (by omega) (by omega))]
          have e' : f_X11_errs (PS (wI ρ 306 21 (i32 r)) f) 2 (i32 q3) = some (PS ρ' f) := e
          rw [e', e_bs]
        refine ⟨false, _, ρ', f, by rw [ec', ec2], by rw [er', er2], (FRx.fld (by omega)).trans ((FRx.fld (by omega)).trans (FRx.fld (by omega))), (FRr.fld (by omega)).trans fr, fun _ _ => rfl, Or.inr (Or.inl ⟨2, q3, rfl, by omega, ?_, ?_, wr⟩)⟩
        · rw [wI_1, if_neg (by omega), wI_1, if_pos ⟨rfl, rfl⟩]; rfl
        · rw [wI_1, if_pos ⟨rfl, rfl⟩]
/-- a power, the reference going on with ones -/
theorem d_power {ρ : Mem} {f : SF} {s p q d : Nat} {v : Nat → Int} (hG : GOK G) (hJ : Jac G) (hR : BR G R w ρ) (hw : w.length ≤ 200) (hs : s + 4 < 100) (hL : DE w ρ q d p) (hf : f s = v) (sv : SmV G v) : ∃ ρ' f' p', f_X11_readPower (PS ρ f) (i32 s) = some (PS ρ' f') ∧ FRr ρ ρ' ∧ (∀ t, t < s → f' t = f t) ∧ DE w ρ' q d p' ∧ p ≤ p' ∧ SmV G (f' s) := by
  have hL' := hL
  obtain ⟨a1, a2, a3, a4, a5, a6⟩ := hL
  rcases a6 with a6 | ⟨t', t1, t2, t3⟩
  · rcases Pw_cases a2 with ⟨q1, h1, h2⟩ | ⟨m, q3, hS⟩
    · exact ⟨ρ, f, p, r_powerA hR.2.2.1 a6 a3 h1 h2, FRr.refl, fun _ _ => rfl, hL', Nat.le_refl _, by rw [hf]; exact sv⟩
    · obtain ⟨r1, r2, r3⟩ := hS.range
      have er := r_powerS (f := f) (s := s) hR.2.2.1 a6 a3 hS
      cases hd : isDg (sn w q3) with
      | false =>
        rw [hd, if_neg (by decide)] at er
        obtain ⟨ρ', e, fr, de, _⟩ := r_errs_dead (f := f) (k := 1) (t := q3) (hL'.at (p' := q3) (by omega) r2) (by omega) (by omega)
        exact ⟨ρ', f, q3, by rw [er]; exact e, (FRr.fld (by omega)).trans fr, fun _ _ => rfl, de, by omega, by rw [hf]; exact sv⟩
      | true =>
        obtain ⟨r, hdg⟩ := DgE_ex w (w.length - q3) q3 r2 (Nat.le_refl _)
        have hr := hdg.2.1
        have hqr := hdg.1
        have g21 : (wI ρ 306 21 (i32 q3)).1 306 21 = i32 q3 := by rw [wI_1, if_pos ⟨rfl, rfl⟩]
        rw [hd, if_pos rfl, r_digits hR.2.2.1.at g21 hdg, e_bs, wI_wI] at er
        have er' : f_X11_readPower (PS ρ f) (i32 s) = j_X11_readPower_153 (i32 s) m (i32 q3) (PS (wI ρ 306 21 (i32 r)) f) (i32 (acc w q3 (r - q3))) := er
        have hacc := acc_le (w := w) (q := q3) (r - q3) (fun t h1 h2 => hdg.2.2.1 t h1 (by omega))
        have hLr := hL'.at (p' := r) (by omega) hr
        by_cases h99 : acc w q3 (r - q3) ≤ 99
        · have hRr : BR G R w (wI ρ 306 21 (i32 r)) := hR.frr (FRr.fld (by omega))
          obtain ⟨g, B, e153, gB, hB, zB, kg⟩ := r_raised (σ := wI ρ 306 21 (i32 r)) (f := f) (s := s) (r := r) (m := m) hG hJ hRr hs h99 hf sv (by rw [wI_1, if_pos ⟨rfl, rfl⟩])
          rw [j153_v h99, e153, r_checks_dead (hLr.bh (v := i32 r)) hw (by omega)] at er'
          exact ⟨_, _, r, er', (FRr.fld (by omega)).trans (FRr.fld (by omega)), fun t ht => by rw [uS_ne (by omega)]; exact kg t ht, hLr.bh, by omega, by rw [uS_self]; exact SmV.O⟩
        · obtain ⟨ρ', e, fr, de, _⟩ := r_errs_dead (f := f) (k := 2) (t := q3) hLr (by omega) (by omega)
          have er2 : j_X11_readPower_153 (i32 s) m (i32 q3) (PS (wI ρ 306 21 (i32 r)) f) (i32 (acc w q3 (r - q3))) = some (PS ρ' f) := by
            unfold j_X11_readPower_153
            rw [if_neg (show ¬ i32 (acc w q3 (r - q3)) ≤ 99 from i_nle (b := 99) (by omega) (by omega))]
            have e' : f_X11_errs (PS (wI ρ 306 21 (i32 r)) f) 2 (i32 q3) = some (PS ρ' f) := e
            rw [e', e_bs]
          exact ⟨ρ', f, r, by rw [er', er2], (FRr.fld (by omega)).trans fr, fun _ _ => rfl, de, by omega, by rw [hf]; exact sv⟩
  · refine ⟨ρ, f, p, ?_, FRr.refl, fun _ _ => rfl, hL', Nat.le_refl _, by rw [hf]; exact sv⟩
    unfold f_X11_readPower
    have e : f_X11_isWrong (PS ρ f) = some true := r_isWrong_yes (t := t') (by omega) t3
    rw [e, e_bs, if_pos rfl]
end PWR
end
section
/-! letters, registers, what must come; both readers -/
section FCT
variable {σ : Mem} {w : List Nat}
theorem rows_d {d : Nat} (h : d ≤ 8) : rf 145 d = 146 + d ∧ rf 155 d = 156 + d ∧ rf 165 d = 166 + d ∧ ln (146 + d) = 6 ∧ ln (156 + d) = 6 ∧ ln (166 + d) = 6 := by
  have h1 : (List.range 9).all (fun d => rf 145 d == 146 + d && (rf 155 d == 156 + d && (rf 165 d == 166 + d && (ln (146 + d) == 6 && (ln (156 + d) == 6 && ln (166 + d) == 6))))) = true := by decide +kernel
  have h2 := List.all_eq_true.mp h1 d (List.mem_range.mpr (by omega))
  simp only [Bool.and_eq_true, beq_iff_eq] at h2
  exact h2
theorem ln_145s : ln 145 = 9 ∧ ln 155 = 9 ∧ ln 165 = 9 := by decide +kernel
def Pw (d x : Nat) : Prop := (72 ≤ x ∧ x ≤ 79) ∨ (146 + d ≤ x ∧ x ≤ 154) ∨ (156 + d ≤ x ∧ x ≤ 164) ∨ (166 + d ≤ x ∧ x ≤ 174)
def Pf (d x : Nat) : Prop := (72 ≤ x ∧ x ≤ 79) ∨ (147 + d ≤ x ∧ x ≤ 154) ∨ (156 + d ≤ x ∧ x ≤ 164) ∨ (166 + d ≤ x ∧ x ≤ 174)
theorem Pw_72 {d x : Nat} (h : Pw d x) : 72 ≤ x := by unfold Pw at h; omega
theorem Pf_72 {d x : Nat} (h : Pf d x) : 72 ≤ x := by unfold Pf at h; omega
theorem Pf_Pw {d x : Nat} (h : Pf d x) : Pw d x := by unfold Pf at h; unfold Pw; omega
theorem Pw_Pf {d x : Nat} (h : Pw (d + 1) x) : Pf d x := by unfold Pw at h; unfold Pf; omega
theorem c_pass {p : Nat} (h9 : σ.1 144 9 = i32 p) : f_X5_passFactor σ = some (true, wI (wI σ 144 9 (i32 (p + 1))) 144 10 (i32 (p + 1))) := by
  unfold f_X5_passFactor
  rw [e_gF, h9, i32_1, i32_add, e_pF, e_gF, wI_1, if_pos ⟨rfl, rfl⟩, e_pF]
theorem pass_at {v u : Int32} : (wI (wI σ 144 9 v) 144 10 u).1 144 9 = v ∧ (wI (wI σ 144 9 v) 144 10 u).1 144 10 = u := ⟨by rw [wI_1, if_neg (by omega), wI_1, if_pos ⟨rfl, rfl⟩], by rw [wI_1, if_pos ⟨rfl, rfl⟩]⟩
theorem c_fail {k p : Int32} : f_X5_fail σ k p = some (false, wI (wI σ 144 0 k) 144 1 p) := by
  unfold f_X5_fail
  rw [e_pF, e_pF]
theorem fail_at {v u : Int32} : (wI (wI σ 144 0 v) 144 1 u).1 144 0 = v ∧ (wI (wI σ 144 0 v) 144 1 u).1 144 1 = u := ⟨by rw [wI_1, if_neg (by omega), wI_1, if_pos ⟨rfl, rfl⟩], by rw [wI_1, if_pos ⟨rfl, rfl⟩]⟩
/-! what must come -/
theorem r_must_wrong {ρ : Mem} {f : SF} {k t d : Nat} {c : Int32} (h : WR ρ k t d) : f_X11_must (PS ρ f) c = some (PS ρ f) := by
  unfold f_X11_must
  have h1 := h.1
  have e : f_X11_isWrong (PS ρ f) = some true := r_isWrong_yes (t := t) (by omega) h.2.2.1
  rw [e, e_bs, if_pos rfl]
theorem r_must_yes {ρ : Mem} {f : SF} {p : Nat} {c : Int32} (hT : RTx ρ w) (h20 : ρ.1 306 20 = -1) (h21 : ρ.1 306 21 = i32 p) (hp : p ≤ w.length) (h32 : sn w p ≠ 32) (hc : sn w p = c) : f_X11_must (PS ρ f) c = some (PS (wI ρ 306 21 (i32 (p + 1))) f) := by
  unfold f_X11_must
  have e : f_X11_isWrong (PS ρ f) = some false := r_isWrong_no h20
  have g : (PS ρ f).1 306 21 = i32 p := h21
  rw [e, e_bs, if_neg (by decide), r_skip (σ := PS ρ f) hT g (Sk_same hp h32), e_bq, wI_id g, if_pos hc, e_gF, g, i32_1, i32_add, e_pF, PS_wI]
theorem r_must_no {ρ : Mem} {f : SF} {p q : Nat} {c : Int32} (hT : RTx ρ w) (h20 : ρ.1 306 20 = -1) (h21 : ρ.1 306 21 = i32 p) (hs : Sk w p q) (hc : sn w q ≠ c) : f_X11_must (PS ρ f) c = f_X11_errs (PS (wI ρ 306 21 (i32 q)) f) 1 (i32 q) := by
  unfold f_X11_must
  have e : f_X11_isWrong (PS ρ f) = some false := r_isWrong_no h20
  have g : (PS ρ f).1 306 21 = i32 p := h21
  have g2 : (PS (wI ρ 306 21 (i32 q)) f).1 306 21 = i32 q := by rw [PS_1, wI_1, if_pos ⟨rfl, rfl⟩]
  rw [e, e_bs, if_neg (by decide), r_skip (σ := PS ρ f) hT g hs, e_bq, PS_wI, if_neg hc, e_gF, g2]
  cases f_X11_errs (PS (wI ρ 306 21 (i32 q)) f) 1 (i32 q) <;> rfl
theorem r_must_some {ρ : Mem} {f : SF} {p q : Nat} {c : Int32} (hT : RTx ρ w) (h20 : ρ.1 306 20 = -1) (h21 : ρ.1 306 21 = i32 p) (hs : Sk w p q) (hc : sn w q = c) : f_X11_must (PS ρ f) c = some (PS (wI ρ 306 21 (i32 (q + 1))) f) := by
  unfold f_X11_must
  have e : f_X11_isWrong (PS ρ f) = some false := r_isWrong_no h20
  have g : (PS ρ f).1 306 21 = i32 p := h21
  have g2 : (PS (wI ρ 306 21 (i32 q)) f).1 306 21 = i32 q := by rw [PS_1, wI_1, if_pos ⟨rfl, rfl⟩]
  rw [e, e_bs, if_neg (by decide), r_skip (σ := PS ρ f) hT g hs, e_bq, PS_wI, if_pos hc, e_gF, g2, i32_1, i32_add, e_pF, PS_wI, wI_wI]
theorem r_must_dead {ρ : Mem} {f : SF} {q d p : Nat} {c : Int32} (hT : RTx ρ w) (h : DE w ρ q d p) (hc : c ≠ -1) : ∃ ρ' p', f_X11_must (PS ρ f) c = some (PS ρ' f) ∧ FRr ρ ρ' ∧ DE w ρ' q d p' ∧ p ≤ p' ∧ (ρ'.1 306 20 = -1 → p < p') := by
  have h' := h
  obtain ⟨a1, a2, a3, a4, a5, a6⟩ := h
  rcases a6 with a6 | ⟨t, t1, t2, t3⟩
  · obtain ⟨q1, hs⟩ := Sk_ex w (w.length - p) p a2 (Nat.le_refl _)
    have b1 := hs.1
    have b2 := hs.2.1
    have b3 := hT.1
    by_cases hq : sn w q1 = c
    · have hlt := sn_lt hq hc
      exact ⟨_, q1 + 1, r_must_some hT a6 a3 hs hq, FRr.fld (by omega), h'.at (by omega) (by omega), by omega, fun _ => by omega⟩
    · obtain ⟨ρ', e, fr, de, nw⟩ := r_errs_dead (f := f) (k := 1) (t := q1) (h'.at (p' := q1) b1 b2) (by omega) (by omega)
      have e' : f_X11_errs (PS (wI ρ 306 21 (i32 q1)) f) 1 (i32 q1) = some (PS ρ' f) := e
      exact ⟨ρ', q1, by rw [r_must_no hT a6 a3 hs hq]; exact e', (FRr.fld (by omega)).trans fr, de, b1, fun z => absurd z nw⟩
  · refine ⟨ρ, p, ?_, FRr.refl, h', Nat.le_refl _, fun z => ?_⟩
    · unfold f_X11_must
      have e : f_X11_isWrong (PS ρ f) = some true := r_isWrong_yes (t := t) (by omega) t3
      rw [e, e_bs, if_pos rfl]
    · rw [t3] at z
      exact absurd z (ne_m1 (by omega))
/-! letters -/
/-- what reading a factor comes to -/
def FOut (S : AS) (w : List Nat) (d s q1 : Nat) (r : Bool) (σ' ρ' : Mem) (f' : SF) : Prop := (∃ q2 x, r = true ∧ σ'.1 144 9 = i32 q2 ∧ BH σ' q2 ∧ LV ρ' d q2 q2 ∧ q1 < q2 ∧ q2 ≤ w.length ∧ H6 σ' (156 + d) x ∧ SmV (aG S) x ∧ f' s = x) ∨ (∃ k t, r = false ∧ WJ σ' ρ' d k t) ∨ (∃ t, r = false ∧ OJ w σ' ρ' d t ∧ (ρ'.1 306 20 = -1 → SmV (aG S) (f' s)))
theorem yE_sm {G : GD} {i : Nat} (hi : i < gn G) : SmV G (yE i 1) := ⟨fun j => by unfold yE; split <;> omega, fun j hj => by unfold yE; rw [if_neg (by omega)]⟩
theorem r_pass {ρ : Mem} {f : SF} {rec : Mem → Int32 → Option Mem} {p : Nat} (h21 : ρ.1 306 21 = i32 p) : j_X11_readFactor_134 rec (PS ρ f) = some (PS (wI ρ 306 23 (i32 p)) f) := by
  unfold j_X11_readFactor_134
  have g : (PS ρ f).1 306 21 = i32 p := h21
  rw [e_gF, g, e_pF, PS_wI]
theorem r_letter {S : AS} {ρ : Mem} {f : SF} {recR : Mem → Int32 → Option Mem} {s p x : Nat} (hG : GOK (aG S)) (hM : MG ρ (aG S)) (hT : RTx ρ w) (h21 : ρ.1 306 21 = i32 p) (hp : p < w.length) (hx : sn w p = i32 (97 + x)) (hx5 : x ≤ 5) (hs : s < 100) : o_X11_readFactor recR (PS ρ f) (i32 s) = if x < gn (aG S) then some (PS (wI (wI ρ 306 21 (i32 (p + 1))) 306 23 (i32 (p + 1))) (uS f s (yE x 1))) else (f_X11_errs (PS ρ f) 3 (i32 p)) := by
  have hn := hG.2.1
  have g : (PS ρ f).1 306 21 = i32 p := h21
  have hv : i32 (97 + x) - 97 = i32 x := by
    have := i32_sub (a := 97 + x) (b := 97) (by omega)
    rw [show 97 + x - 97 = x by omega] at this
    exact this
  unfold o_X11_readFactor
  rw [r_here (σ := PS ρ f) hT (by omega) g, e_bs, hx, if_neg (show ¬ i32 (97 + x) < 97 from i_nlt (b := 97) (by omega) (by omega)), if_neg (show ¬ 102 < i32 (97 + x) from i_nlt (a := 102) (by omega) (by omega)), e_n (PS_MG hM), e_bs, hv]
  by_cases hxn : x < gn (aG S)
  · have e1 : f_X11_ones (PS ρ f) (i32 s) = some (PS ρ (uS f s (fun _ => 0))) := p_ones hs
    have e2 : f_X11_puts (PS ρ (uS f s (fun _ => 0))) (i32 s) (i32 x) 1 = some (PS ρ (uS (uS f s (fun _ => 0)) s (uV ((uS f s (fun _ => 0)) s) x 1))) := p_puts (σ := ρ) (f := uS f s (fun _ => 0)) (x := 1) hs (by omega)
    have e3 : uS (uS f s (fun _ => 0)) s (uV ((uS f s (fun _ => 0)) s) x 1) = uS f s (yE x 1) := by
      funext r
      by_cases hr : r = s
      · rw [hr, uS_self, uS_self, uS_self]; rfl
      · rw [uS_ne hr, uS_ne hr, uS_ne hr]
    rw [e3] at e2
    have g2 : (PS ρ (uS f s (yE x 1))).1 306 21 = i32 p := h21
    rw [if_pos (i_lt hxn (by omega)), e1, e_bs, e2, e_bs, e_gF, g2, i32_1, i32_add, e_pF, PS_wI, e_bs, if_pos hxn]
    show (some (Sum.inl (PS (wI ρ 306 21 (i32 (p + 1))) (uS f s (yE x 1)))) : Option (Mem ⊕ Mem)).bind _ = _
    rw [e_bs]
    show j_X11_readFactor_134 recR (PS (wI ρ 306 21 (i32 (p + 1))) (uS f s (yE x 1))) = _
    rw [r_pass (p := p + 1) (by rw [wI_1, if_pos ⟨rfl, rfl⟩])]
  · rw [if_neg (i_nlt (by omega) (by omega)), if_neg hxn, e_gF, g]
    cases f_X11_errs (PS ρ f) 3 (i32 p) <;> rfl
theorem j_letter {S : AS} {ρ : Mem} {f : SF} {recC : Mem → Int32 → Option (Bool × Mem)} {recR : Mem → Int32 → Option Mem} {s p b bc d x : Nat} (hG : GOK (aG S)) (hC : BC (aG S) (aR S) w σ) (hR : BR (aG S) (aR S) w ρ) (hd : d ≤ 8) (hs : s < 100) (h9 : σ.1 144 9 = i32 p) (h10 : BH σ bc) (hL : LV ρ d p b) (hp : p < w.length) (hx : sn w p = i32 (97 + x)) (hx5 : x ≤ 5) : ∃ r σ' ρ' f', o_X5_readFactor recC σ (i32 d) = some (r, σ') ∧ o_X11_readFactor recR (PS ρ f) (i32 s) = some (PS ρ' f') ∧ FRx (Pf d) σ σ' ∧ FRr ρ ρ' ∧ (∀ t, t < s → f' t = f t) ∧ FOut S w d s p r σ' ρ' f' := by
  have hn := hG.2.1
  obtain ⟨_, rF, _, _, lF, _⟩ := rows_d hd
  have er := r_letter (recR := recR) (f := f) (s := s) hG hR.1 hR.2.2.1 hL.1 hp hx hx5 hs
  have hv : i32 (97 + x) - 97 = i32 x := by
    have := i32_sub (a := 97 + x) (b := 97) (by omega)
    rw [show 97 + x - 97 = x by omega] at this
    exact this
  have hpre : o_X5_readFactor recC σ (i32 d) = (bq (f_X5_readLetter σ (i32 x) (156 + d)) (fun (b12 : Bool) (σ13 : Mem) => some (Sum.inr (b12, σ13))) : Option (Unit ⊕ (Bool × Mem))).bind (Sum.elim (fun (z1 : Unit) => j_X5_readFactor_49 recC σ (i32 d) (i32 (97 + x))) some) := by
    unfold o_X5_readFactor
    rw [c_sign hC.2.1 (by omega) h9, e_bs, hx, if_neg (show ¬ i32 (97 + x) = 82 from i_ne (b := 82) (by omega) (by omega) (by omega)), if_neg (show ¬ i32 (97 + x) = 40 from i_ne (b := 40) (by omega) (by omega) (by omega)), if_neg (show ¬ i32 (97 + x) = 91 from i_ne (b := 91) (by omega) (by omega) (by omega)), e_gR ln_145s.2.1 (by omega) (by omega), rF, hv]
  by_cases hxn : x < gn (aG S)
  · rw [if_pos hxn] at er
    obtain ⟨σ1, e1, o1, r1⟩ := c_makeGen (σ := σ) (a := 156 + d) (i := x) (y := 1) lF (by omega)
    have e1' : f_X0_makeGenerator σ (156 + d) (i32 x) 1 = some σ1 := e1
    have g9 : σ1.1 144 9 = i32 p := by rw [o1.1]; exact h9
    refine ⟨true, _, _, _, ?_, er, (o1.frx (fun y hy => by unfold Pf; omega)).trans ((FRx.fld (by omega)).trans (FRx.fld (by omega))), (FRr.fld (by omega)).trans (FRr.fld (by omega)), fun t ht => uS_ne (by omega), Or.inl ⟨p + 1, yE x 1, rfl, pass_at.1, (h10.of (by rw [o1.1])).at.bh, (hL.at (q := p + 1)).bh (q := p + 1), by omega, by omega, r1, yE_sm hxn, uS_self⟩⟩
    rw [hpre]
    unfold f_X5_readLetter
    rw [if_neg (show ¬ i32 x < 0 from i_nlt (b := 0) (by omega) (by omega)), e_gF, hC.2.2.2, if_pos (i_lt hxn (by omega)), e1', e_bs, c_pass g9, e_bq, e_bs]
    rfl
  · rw [if_neg hxn] at er
    have hw := hC.2.1.1
    obtain ⟨ρ', e, fr, wr, _⟩ := r_errs_live (f := f) (k := 3) (t := p) hL (by omega)
    refine ⟨false, _, ρ', f, ?_, by rw [er]; exact e, (FRx.fld (by omega)).trans (FRx.fld (by omega)), fr, fun _ _ => rfl, Or.inr (Or.inl ⟨3, p, rfl, by omega, fail_at.1, fail_at.2, wr⟩)⟩
    rw [hpre]
    unfold f_X5_readLetter
    rw [if_neg (show ¬ i32 x < 0 from i_nlt (b := 0) (by omega) (by omega)), e_gF, hC.2.2.2, if_neg (i_nlt (by omega) (by omega)), e_bs]
    show (bq (j_X5_readLetter_18 σ) _ : Option (Unit ⊕ (Bool × Mem))).bind _ = _
    unfold j_X5_readLetter_18
    rw [e_gF, h9, c_fail, e_bq, e_bq, e_bs]
    rfl
theorem d_letter {S : AS} {ρ : Mem} {f : SF} {recR : Mem → Int32 → Option Mem} {s p q d x : Nat} (hG : GOK (aG S)) (hR : BR (aG S) (aR S) w ρ) (hs : s < 100) (hL : DE w ρ q d p) (hp : p < w.length) (hx : sn w p = i32 (97 + x)) (hx5 : x ≤ 5) : ∃ ρ' f' p', o_X11_readFactor recR (PS ρ f) (i32 s) = some (PS ρ' f') ∧ FRr ρ ρ' ∧ (∀ t, t < s → f' t = f t) ∧ DE w ρ' q d p' ∧ p ≤ p' ∧ (ρ'.1 306 20 = -1 → p < p' ∧ SmV (aG S) (f' s)) := by
  have er := r_letter (recR := recR) (f := f) (s := s) hG hR.1 hR.2.2.1 hL.2.2.1 hp hx hx5 hs
  have hw := hR.2.2.1.1
  have hqp := hL.1
  by_cases hxn : x < gn (aG S)
  · rw [if_pos hxn] at er
    exact ⟨_, _, p + 1, er, (FRr.fld (by omega)).trans (FRr.fld (by omega)), fun t ht => uS_ne (by omega), (hL.at (p' := p + 1) (by omega) (by omega)).bh, by omega, fun _ => ⟨by omega, by rw [uS_self]; exact yE_sm hxn⟩⟩
  · rw [if_neg hxn] at er
    obtain ⟨ρ', e, fr, de, nw⟩ := r_errs_dead (f := f) (k := 3) (t := p) hL (by omega) hqp
    exact ⟨ρ', f, p, by rw [er]; exact e, fr, fun _ _ => rfl, de, Nat.le_refl _, fun z => absurd z nw⟩
/-! registers -/
theorem dg_reg (hb : ∀ x : Nat, x ∈ w → x < 256) (p : Nat) : (∃ r, r < 10 ∧ sn w p = i32 (48 + r) ∧ isDg (sn w p) = true ∧ isReg (sn w p - 48) = true ∧ sn w p - 48 = i32 r ∧ p < w.length) ∨ (isDg (sn w p) = false ∧ isReg (sn w p - 48) = false) := by
  cases hd : isDg (sn w p) with
  | true =>
    obtain ⟨d1, d2⟩ := dig_eq hd
    have hv : i32 (48 + dig w p) - 48 = i32 (dig w p) := by
      have := i32_sub (a := 48 + dig w p) (b := 48) (by omega)
      rw [show 48 + dig w p - 48 = dig w p by omega] at this
      exact this
    exact Or.inl ⟨dig w p, by omega, d2, rfl, by rw [d2, hv]; exact isReg_of (by omega), by rw [d2, hv], isDg_lt hd⟩
  | false =>
    refine Or.inr ⟨rfl, ?_⟩
    rcases sn_cases hb p with ⟨x, hx, hx256, _, hs⟩ | ⟨_, hs⟩
    · rw [hs] at hd ⊢
      have key : (List.range 256).all (fun x => isDg (i32 x) || !(isReg (i32 x - 48))) = true := by decide +kernel
      have h1 := List.all_eq_true.mp key x (List.mem_range.mpr hx256)
      rw [hd, Bool.false_or] at h1
      cases hr : isReg (i32 x - 48) with
      | false => rfl
      | true => rw [hr] at h1; cases h1
    · rw [hs]; decide
theorem r_register {S : AS} {ρ : Mem} {f : SF} {recR : Mem → Int32 → Option Mem} {s p : Nat} (ok : OKS S) (hB : RB ρ 307 0 (aX S)) (hT : RTx ρ w) (hb : ∀ x : Nat, x ∈ w → x < 256) (h21 : ρ.1 306 21 = i32 p) (hp : p < w.length) (hx : sn w p = 82) (hs : s < 100) : (∃ r, r < 10 ∧ sn w (p + 1) = i32 (48 + r) ∧ p + 1 < w.length ∧ o_X11_readFactor recR (PS ρ f) (i32 s) = some (PS (wI (wI ρ 306 21 (i32 (p + 2))) 306 23 (i32 (p + 2))) (uS f s (aR S r)))) ∨ (isReg (sn w (p + 1) - 48) = false ∧ o_X11_readFactor recR (PS ρ f) (i32 s) = f_X11_errs (PS (wI ρ 306 21 (i32 (p + 1))) f) 1 (i32 (p + 1))) := by
  have g : (PS ρ f).1 306 21 = i32 p := h21
  have g1 : (PS (wI ρ 306 21 (i32 (p + 1))) f).1 306 21 = i32 (p + 1) := by rw [PS_1, wI_1, if_pos ⟨rfl, rfl⟩]
  have hh := r_here (σ := PS (wI ρ 306 21 (i32 (p + 1))) f) (hT.at (v := i32 (p + 1))) (p := p + 1) (by omega) g1
  have hpre : o_X11_readFactor recR (PS ρ f) (i32 s) = (if isDg (sn w (p + 1)) = true then (f_X11_laysRegister (PS (wI ρ 306 21 (i32 (p + 1))) f) (i32 s) (sn w (p + 1) - 48)).bind (fun (σ11 : Mem) => gF σ11 306 21 (fun (v12 : Int32) => pF σ11 306 21 (v12 + 1) (fun (σ13 : Mem) => some (Sum.inl σ13)))) else (f_X11_errs (PS (wI ρ 306 21 (i32 (p + 1))) f) 1 (i32 (p + 1))).bind (fun (σ15 : Mem) => some (Sum.inr σ15)) : Option (Mem ⊕ Mem)).bind (Sum.elim (fun (z2 : Mem) => j_X11_readFactor_134 recR z2) some) := by
    unfold o_X11_readFactor
    rw [r_here (σ := PS ρ f) hT (by omega) g, e_bs, hx, if_pos (by decide), e_bs]
    show (j_X11_readFactor_66 recR (PS ρ f) (i32 s) 82 : Option (Mem ⊕ Mem)).bind _ = _
    unfold j_X11_readFactor_66
    rw [if_pos rfl, e_gF, g, i32_1, i32_add, e_pF, PS_wI, hh, e_bs, r_isDigit, e_bs, e_bs, e_gF, g1]
  rcases dg_reg hb (p + 1) with ⟨r, hr, h1, h2, h3, h4, h5⟩ | ⟨h1, h2⟩
  · refine Or.inl ⟨r, hr, h1, h5, ?_⟩
    have hB' : RB (wI ρ 306 21 (i32 (p + 1))) 307 0 (aX S) := hB.eqs (by funext y; rw [wI_1, if_neg (by omega)])
    have e1 : f_X11_laysRegister (PS (wI ρ 306 21 (i32 (p + 1))) f) (i32 s) (i32 r) = some (PS (wI ρ 306 21 (i32 (p + 1))) (uS f s (aR S r))) := p_lays hB' ok hs hr
    have g2 : (PS (wI ρ 306 21 (i32 (p + 1))) (uS f s (aR S r))).1 306 21 = i32 (p + 1) := g1
    rw [hpre, h2, if_pos rfl, h4, e1, e_bs, e_gF, g2, i32_1, i32_add, e_pF, PS_wI, wI_wI, e_bs]
    show j_X11_readFactor_134 recR (PS (wI ρ 306 21 (i32 (p + 2))) (uS f s (aR S r))) = _
    rw [r_pass (p := p + 2) (by rw [wI_1, if_pos ⟨rfl, rfl⟩])]
  · refine Or.inr ⟨h2, ?_⟩
    rw [hpre, h1, if_neg (by decide)]
    cases f_X11_errs (PS (wI ρ 306 21 (i32 (p + 1))) f) 1 (i32 (p + 1)) <;> rfl
theorem reg_sm {S : AS} (ok : OKS S) (r : Nat) : SmV (aG S) (aR S r) := ⟨fun i => ok.1.2.1 r i, fun i hi => ok.1.2.2 r i hi⟩
theorem j_register {S : AS} {ρ : Mem} {f : SF} {recC : Mem → Int32 → Option (Bool × Mem)} {recR : Mem → Int32 → Option Mem} {s p b bc d : Nat} (ok : OKS S) (hC : BC (aG S) (aR S) w σ) (hR : BR (aG S) (aR S) w ρ) (hbt : ∀ x : Nat, x ∈ w → x < 256) (hd : d ≤ 8) (hs : s < 100) (h9 : σ.1 144 9 = i32 p) (h10 : BH σ bc) (hL : LV ρ d p b) (hp : p < w.length) (hx : sn w p = 82) : ∃ r σ' ρ' f', o_X5_readFactor recC σ (i32 d) = some (r, σ') ∧ o_X11_readFactor recR (PS ρ f) (i32 s) = some (PS ρ' f') ∧ FRx (Pf d) σ σ' ∧ FRr ρ ρ' ∧ (∀ t, t < s → f' t = f t) ∧ FOut S w d s p r σ' ρ' f' := by
  have hw := hC.2.1.1
  obtain ⟨_, rF, _, _, lF, _⟩ := rows_d hd
  have g9 : (wI σ 144 9 (i32 (p + 1))).1 144 9 = i32 (p + 1) := by rw [wI_1, if_pos ⟨rfl, rfl⟩]
  have hpre : o_X5_readFactor recC σ (i32 d) = if isReg (sn w (p + 1) - 48) = true then gR 5 (sn w (p + 1) - 48) (fun (p6 : Nat) => (f_X0_copy (wI σ 144 9 (i32 (p + 1))) p6 (156 + d)).bind (fun (σ7 : Mem) => bq (bq (f_X5_passFactor σ7) (fun (b8 : Bool) (σ9 : Mem) => some (b8, σ9))) (fun (b15 : Bool) (σ16 : Mem) => some (b15, σ16)))) else some (false, wI (wI (wI σ 144 9 (i32 (p + 1))) 144 0 1) 144 1 (i32 (p + 1))) := by
    unfold o_X5_readFactor
    rw [c_sign hC.2.1 (by omega) h9, e_bs, hx, if_pos rfl, e_gR ln_145s.2.1 (by omega) (by omega), rF]
    unfold f_X5_readRegister
    rw [e_gF, h9, i32_1, i32_add, e_pF, c_sign hC.2.1.at (p := p + 1) (by omega) g9, e_bs, e_bd, c_isReg, e_bs]
    cases hr : isReg (sn w (p + 1) - 48) with
    | true =>
      rw [if_pos rfl, if_pos rfl]
      unfold gR
      split
      · show bq ((f_X0_copy (wI σ 144 9 (i32 (p + 1))) (rf 5 (sn w (p + 1) - 48).toNatClampNeg) (156 + d)).bind _) _ = (f_X0_copy (wI σ 144 9 (i32 (p + 1))) (rf 5 (sn w (p + 1) - 48).toNatClampNeg) (156 + d)).bind _
        cases f_X0_copy (wI σ 144 9 (i32 (p + 1))) (rf 5 (sn w (p + 1) - 48).toNatClampNeg) (156 + d) <;> rfl
      · rfl
    | false =>
      rw [if_neg (by decide), if_neg (by decide), e_gF, g9, c_fail, e_bq, e_bq]
  rcases r_register (recR := recR) (f := f) (s := s) ok hR.2.2.2 hR.2.2.1 hbt hL.1 hp hx hs with ⟨r, hr, h1, h2, er⟩ | ⟨h1, er⟩
  · have hv : sn w (p + 1) - 48 = i32 r := by
      have := i32_sub (a := 48 + r) (b := 48) (by omega)
      rw [show 48 + r - 48 = r by omega] at this
      rw [h1]; exact this
    obtain ⟨σ1, e1, o1, c1⟩ := c_copy (σ := wI σ 144 9 (i32 (p + 1))) (a := 6 + r) (b := 156 + d) (A := aR S r) (ln_reg hr) lF (hC.2.2.1 r hr)
    have k9 : σ1.1 144 9 = i32 (p + 1) := by rw [o1.1]; exact g9
    refine ⟨true, _, _, _, ?_, er, ((FRx.fld (by omega)).trans (o1.frx (fun y hy => by unfold Pf; omega))).trans ((FRx.fld (by omega)).trans (FRx.fld (by omega))), (FRr.fld (by omega)).trans (FRr.fld (by omega)), fun t ht => uS_ne (by omega), Or.inl ⟨p + 2, aR S r, rfl, pass_at.1, ((h10.at (v := i32 (p + 1))).of (by rw [o1.1])).at.bh, (hL.at (q := p + 2)).bh (q := p + 2), by omega, by omega, c1, reg_sm ok r, uS_self⟩⟩
    rw [hpre, hv, isReg_of hr, if_pos rfl, e_gR ln_5 hr (by omega), rf_5 hr, e1, e_bs, c_pass k9, e_bq, e_bq]
  · obtain ⟨ρ', e, fr, wr, _⟩ := r_errs_live (f := f) (k := 1) (t := p + 1) (hL.at (q := p + 1)) (by omega)
    refine ⟨false, wI (wI (wI σ 144 9 (i32 (p + 1))) 144 0 1) 144 1 (i32 (p + 1)), ρ', f, ?_, by rw [er]; exact e, (FRx.fld (by omega)).trans ((FRx.fld (by omega)).trans (FRx.fld (by omega))), (FRr.fld (by omega)).trans fr, fun _ _ => rfl, Or.inr (Or.inl ⟨1, p + 1, rfl, by omega, fail_at.1, fail_at.2, wr⟩)⟩
    rw [hpre, h1, if_neg (by decide)]
theorem d_register {S : AS} {ρ : Mem} {f : SF} {recR : Mem → Int32 → Option Mem} {s p q d : Nat} (ok : OKS S) (hR : BR (aG S) (aR S) w ρ) (hbt : ∀ x : Nat, x ∈ w → x < 256) (hs : s < 100) (hL : DE w ρ q d p) (hp : p < w.length) (hx : sn w p = 82) : ∃ ρ' f' p', o_X11_readFactor recR (PS ρ f) (i32 s) = some (PS ρ' f') ∧ FRr ρ ρ' ∧ (∀ t, t < s → f' t = f t) ∧ DE w ρ' q d p' ∧ p ≤ p' ∧ (ρ'.1 306 20 = -1 → p < p' ∧ SmV (aG S) (f' s)) := by
  have hw := hR.2.2.1.1
  have hqp := hL.1
  rcases r_register (recR := recR) (f := f) (s := s) ok hR.2.2.2 hR.2.2.1 hbt hL.2.2.1 hp hx hs with ⟨r, hr, h1, h2, er⟩ | ⟨h1, er⟩
  · exact ⟨_, _, p + 2, er, (FRr.fld (by omega)).trans (FRr.fld (by omega)), fun t ht => uS_ne (by omega), (hL.at (p' := p + 2) (by omega) (by omega)).bh, by omega, fun _ => ⟨by omega, by rw [uS_self]; exact reg_sm ok r⟩⟩
  · obtain ⟨ρ', e, fr, de, nw⟩ := r_errs_dead (f := f) (k := 1) (t := p + 1) (hL.at (p' := p + 1) (by omega) (by omega)) (by omega) (by omega)
    exact ⟨ρ', f, p + 1, by rw [er]; exact e, (FRr.fld (by omega)).trans fr, fun _ _ => rfl, de, by omega, fun z => absurd z nw⟩
end FCT
end
section
/-! brackets; both readers -/
section BRK
variable {σ : Mem} {w : List Nat}
theorem lp_go {S X : Type} {body : S → Option (S ⊕ X)} {s s' : S} (h : body s = some (Sum.inl s')) : loopO body s = loopO body s' := by rw [loopO_eq, h]; rfl
theorem lp_end {S X : Type} {body : S → Option (S ⊕ X)} {s : S} {x : X} (h : body s = some (Sum.inr x)) : loopO body s = some x := by rw [loopO_eq, h]; rfl
theorem LV.dep {d e p b : Nat} (h : LV σ e p b) : LV (wI σ 306 25 (i32 d)) d p b := ⟨by rw [wI_1, if_neg (by omega)]; exact h.1, by rw [wI_1, if_neg (by omega)]; exact h.2.1, by rw [wI_1, if_neg (by omega)]; exact h.2.2.1, by rw [wI_1, if_pos ⟨rfl, rfl⟩], by rw [wI_1, if_neg (by omega)]; exact h.2.2.2.2.1, by rw [wI_1, if_neg (by omega)]; exact h.2.2.2.2.2⟩
theorem WR.dep {d e k t : Nat} (h : WR σ k t e) : WR (wI σ 306 25 (i32 d)) k t d := ⟨h.1, by rw [wI_1, if_neg (by omega)]; exact h.2.1, by rw [wI_1, if_neg (by omega)]; exact h.2.2.1, by rw [wI_1, if_neg (by omega)]; exact h.2.2.2.1, by rw [wI_1, if_pos ⟨rfl, rfl⟩]⟩
theorem WR.bh {d k t : Nat} {v : Int32} (h : WR σ k t d) : WR (wI σ 306 23 v) k t d := ⟨h.1, by rw [wI_1, if_neg (by omega)]; exact h.2.1, by rw [wI_1, if_neg (by omega)]; exact h.2.2.1, by rw [wI_1, if_neg (by omega)]; exact h.2.2.2.1, by rw [wI_1, if_neg (by omega)]; exact h.2.2.2.2⟩
theorem DE.dep {d e q p : Nat} (h : DE w σ q e p) : DE w (wI σ 306 25 (i32 d)) q d p := by
  obtain ⟨a1, a2, a3, a4, a5, a6⟩ := h
  refine ⟨a1, a2, by rw [wI_1, if_neg (by omega)]; exact a3, by rw [wI_1, if_neg (by omega)]; exact a4, by rw [wI_1, if_pos ⟨rfl, rfl⟩], ?_⟩
  rw [wI_1, if_neg (by omega)]
  exact a6
/-- what reading a word comes to -/
def WOut (S : AS) (w : List Nat) (d s p : Nat) (r : Bool) (σ' ρ' : Mem) (f' : SF) : Prop := (∃ q b b' v, r = true ∧ σ'.1 144 9 = i32 q ∧ BH σ' b' ∧ LV ρ' d q b ∧ b ≤ q ∧ p ≤ q ∧ q ≤ w.length ∧ sn w q ≠ 32 ∧ H6 σ' (146 + d) v ∧ SmV (aG S) v ∧ f' s = v ∧ (b' = b ∨ v = O)) ∨ (∃ k t, r = false ∧ WJ σ' ρ' d k t) ∨ (∃ t, r = false ∧ OJ w σ' ρ' d t ∧ SmV (aG S) (f' s))
/-- both read words alike, at a depth -/
def JWl (S : AS) (w : List Nat) (recC : Mem → Int32 → Option (Bool × Mem)) (recR : Mem → Int32 → Option Mem) (d : Nat) : Prop := ∀ (σ ρ : Mem) (f : SF) (s p bc br : Nat), s ≤ 10 + 2 * d → BC (aG S) (aR S) w σ → BR (aG S) (aR S) w ρ → p ≤ w.length → σ.1 144 9 = i32 p → BH σ bc → LV ρ d p br → br ≤ p → ∃ r σ' ρ' f', recC σ (i32 d) = some (r, σ') ∧ recR (PS ρ f) (i32 s) = some (PS ρ' f') ∧ FRx (Pw d) σ σ' ∧ FRr ρ ρ' ∧ (∀ t, t < s → f' t = f t) ∧ WOut S w d s p r σ' ρ' f'
def JWo (S : AS) (w : List Nat) (recR : Mem → Int32 → Option Mem) (d : Nat) : Prop := ∀ (ρ : Mem) (f : SF) (s q p : Nat), s ≤ 10 + 2 * d → BR (aG S) (aR S) w ρ → DE w ρ q d p → ∃ ρ' f' p', recR (PS ρ f) (i32 s) = some (PS ρ' f') ∧ FRr ρ ρ' ∧ (∀ t, t < s → f' t = f t) ∧ DE w ρ' q d p' ∧ p ≤ p' ∧ SmV (aG S) (f' s)
def JWw (recR : Mem → Int32 → Option Mem) : Prop := ∀ (ρ : Mem) (f : SF) (s t : Nat), s < 100 → t < 2 ^ 31 → ρ.1 306 20 = i32 t → recR (PS ρ f) (i32 s) = some (PS ρ (uS f s (fun _ => 0)))
theorem r_j72 {ρ : Mem} {f : SF} {rec : Mem → Int32 → Option Mem} {k : Nat} (h : ρ.1 306 25 = i32 (k + 1)) : j_X11_readOpen_72 rec (PS ρ f) = some (PS (wI ρ 306 25 (i32 k)) f) := by
  unfold j_X11_readOpen_72
  have g : (PS ρ f).1 306 25 = i32 (k + 1) := h
  rw [e_gF, g, i32_1, i32_sub (by omega), e_pF, PS_wI, Nat.add_sub_cancel]
/-- a bracket begins -/
def opn (ρ : Mem) (d p : Nat) : Mem := wI (wI (wI ρ 306 25 (i32 (d + 1))) 306 21 (i32 (p + 1))) 306 23 (i32 (p + 1))
theorem opn_fr {ρ : Mem} {d p : Nat} : FRr ρ (opn ρ d p) := (FRr.fld (by omega)).trans ((FRr.fld (by omega)).trans (FRr.fld (by omega)))
theorem opn_lv {ρ : Mem} {d p b : Nat} (h : LV ρ d p b) : LV (opn ρ d p) (d + 1) (p + 1) (p + 1) := ((h.dep (d := d + 1)).at (q := p + 1)).bh (q := p + 1)
theorem opn_de {ρ : Mem} {d p q : Nat} (h : DE w ρ q d p) (hp : p < w.length) : DE w (opn ρ d p) q (d + 1) (p + 1) := ((h.dep (d := d + 1)).at (p' := p + 1) (by omega) (by omega)).bh
theorem r_open {ρ : Mem} {f : SF} {rec : Mem → Int32 → Option Mem} {s d p : Nat} {c : Int32} (h25 : ρ.1 306 25 = i32 d) (h21 : ρ.1 306 21 = i32 p) (hd : d < 8) : o_X11_readOpen rec (PS ρ f) (i32 s) c = (rec (PS (opn ρ d p) f) (i32 s)).bind (fun (σ8 : Mem) => (if c = 40 then (f_X11_must σ8 41) else (o_X11_readCommutator rec σ8 (i32 s)) : Option Mem).bind (fun (z9 : Mem) => j_X11_readOpen_72 rec z9)) := by
  unfold o_X11_readOpen
  have g25 : (PS ρ f).1 306 25 = i32 d := h25
  have g21 : (PS (wI ρ 306 25 (i32 (d + 1))) f).1 306 21 = i32 p := by rw [PS_1, wI_1, if_neg (by omega)]; exact h21
  have g21' : (PS (wI (wI ρ 306 25 (i32 (d + 1))) 306 21 (i32 (p + 1))) f).1 306 21 = i32 (p + 1) := by rw [PS_1, wI_1, if_pos ⟨rfl, rfl⟩]
  rw [e_gF, g25, if_neg (show ¬ i32 d = 8 from i_ne (b := 8) (by omega) (by omega) (by omega)), e_gF, g25, i32_1, i32_add, e_pF, PS_wI, e_gF, g21, i32_add, e_pF, PS_wI, e_gF, g21', e_pF, PS_wI]
  show (rec (PS (opn ρ d p) f) (i32 s)).bind _ = _
  cases rec (PS (opn ρ d p) f) (i32 s) with
  | none => rfl
  | some σ8 =>
    rw [e_bs, e_bs]
    by_cases hc : c = 40
    · rw [if_pos hc, if_pos hc]
      cases f_X11_must σ8 41 <;> rfl
    · rw [if_neg hc, if_neg hc]
      cases o_X11_readCommutator rec σ8 (i32 s) <;> rfl
theorem r_factorB {ρ : Mem} {f : SF} {rec : Mem → Int32 → Option Mem} {s p : Nat} {c : Int32} (hT : RTx ρ w) (h21 : ρ.1 306 21 = i32 p) (hp : p ≤ w.length) (hx : sn w p = c) (hc : c = 40 ∨ c = 91) : o_X11_readFactor rec (PS ρ f) (i32 s) = (o_X11_readOpen rec (PS ρ f) (i32 s) c).bind (fun (σ5 : Mem) => j_X11_readFactor_134 rec σ5) := by
  have g : (PS ρ f).1 306 21 = i32 p := h21
  unfold o_X11_readFactor
  have h97 : c < 97 := by rcases hc with rfl | rfl <;> decide
  rw [r_here (σ := PS ρ f) hT hp g, e_bs, hx, if_pos h97, e_bs]
  show (j_X11_readFactor_66 rec (PS ρ f) (i32 s) c : Option (Mem ⊕ Mem)).bind _ = _
  unfold j_X11_readFactor_66
  rw [if_neg (show ¬ c = 82 by rcases hc with rfl | rfl <;> decide)]
  cases o_X11_readOpen rec (PS ρ f) (i32 s) c <;> rfl
theorem c_factorB {recC : Mem → Int32 → Option (Bool × Mem)} {d p : Nat} {c : Int32} (hT : CTx σ w) (h9 : σ.1 144 9 = i32 p) (hp : p ≤ w.length) (hx : sn w p = c) (hc : c = 40 ∨ c = 91) (hd : d ≤ 8) : o_X5_readFactor recC σ (i32 d) = if d < 8 then (if c = 40 then o_X5_readRound recC (wI σ 144 9 (i32 (p + 1))) (i32 d) else o_X5_readSquare recC (wI σ 144 9 (i32 (p + 1))) (i32 d)) else some (false, wI (wI σ 144 0 4) 144 1 (i32 p)) := by
  unfold o_X5_readFactor
  have e1 : (if c = 40 then (some (Sum.inl ())) else (if c = 91 then (some (Sum.inl ())) else (gR 155 (i32 d) (fun (p11 : Nat) => bq (f_X5_readLetter σ (c - 97) p11) (fun (b12 : Bool) (σ13 : Mem) => some (Sum.inr (b12, σ13)))))) : Option (Unit ⊕ (Bool × Mem))) = some (Sum.inl ()) := by
    rcases hc with rfl | rfl
    · rw [if_pos rfl]
    · rw [if_neg (by decide), if_pos rfl]
  rw [c_sign hT hp h9, e_bs, hx, if_neg (show ¬ c = 82 by rcases hc with rfl | rfl <;> decide), e1, e_bs]
  show j_X5_readFactor_49 recC σ (i32 d) c = _
  unfold j_X5_readFactor_49
  by_cases hd8 : d < 8
  · rw [if_pos (show i32 d < 8 from i_lt (b := 8) hd8 (by omega)), if_pos hd8, e_gF, h9, i32_1, i32_add, e_pF]
    by_cases h40 : c = 40
    · rw [if_pos h40, if_pos h40]
      cases o_X5_readRound recC (wI σ 144 9 (i32 (p + 1))) (i32 d) with
      | none => rfl
      | some x => cases x; rfl
    · rw [if_neg h40, if_neg h40]
      cases o_X5_readSquare recC (wI σ 144 9 (i32 (p + 1))) (i32 d) with
      | none => rfl
      | some x => cases x; rfl
  · rw [if_neg (show ¬ i32 d < 8 from i_nlt (b := 8) (by omega) (by omega)), if_neg hd8, e_gF, h9, c_fail, e_bq]
theorem Sk_here {q : Nat} (hq : q ≤ w.length) (h : sn w q ≠ 32) : Sk w q q := Sk_same hq h
/-- a bracket's end: one sign must come, then back -/
theorem j_close {S : AS} {ρ : Mem} {f : SF} {rec : Mem → Int32 → Option Mem} {d s q b bc p row : Nat} {c : Int32} {v : Nat → Int} (hd : d < 8) (hC : BC (aG S) (aR S) w σ) (hR : BR (aG S) (aR S) w ρ) (h9 : σ.1 144 9 = i32 q) (h10 : BH σ bc) (hL : LV ρ (d + 1) q b) (hpq : p < q) (hq : q ≤ w.length) (h32 : sn w q ≠ 32) (hrow : ln row = 6) (hA : H6 σ row v) (sv : SmV (aG S) v) (hf : f s = v) (hcn : c ≠ -1) : ∃ r σ' ρ' f', (if sn w q = c then ((f_X0_copy σ row (156 + d)).bind (fun (σ6 : Mem) => bq (f_X5_passFactor σ6) (fun (b7 : Bool) (σ8 : Mem) => some (b7, σ8)))) else (gF σ 144 9 (fun (v9 : Int32) => bq (f_X5_fail σ 1 v9) (fun (b10 : Bool) (σ11 : Mem) => some (b10, σ11)))) : Option (Bool × Mem)) = some (r, σ') ∧ ((f_X11_must (PS ρ f) c).bind (fun (z9 : Mem) => j_X11_readOpen_72 rec z9)).bind (fun (σ5 : Mem) => j_X11_readFactor_134 rec σ5) = some (PS ρ' f') ∧ FRx (Pf d) σ σ' ∧ FRr ρ ρ' ∧ (∀ t, t < s → f' t = f t) ∧ FOut S w d s p r σ' ρ' f' := by
  have hw := hC.2.1.1
  obtain ⟨_, _, _, _, lF, _⟩ := rows_d (d := d) (by omega)
  by_cases hc : sn w q = c
  · have hlt := sn_lt hc hcn
    obtain ⟨σ1, e1, o1, c1⟩ := c_copy (σ := σ) (a := row) (b := 156 + d) (A := v) hrow lF hA
    have k9 : σ1.1 144 9 = i32 q := by rw [o1.1]; exact h9
    have e2 := r_must_yes (f := f) hR.2.2.1 hL.2.1 hL.1 hq h32 hc
    have hL2 := (hL.at (q := q + 1)).dep (d := d)
    refine ⟨true, _, _, f, by rw [if_pos hc, e1, e_bs, c_pass k9, e_bq], ?_, (o1.frx (fun y hy => by unfold Pf; omega)).trans ((FRx.fld (by omega)).trans (FRx.fld (by omega))), (FRr.fld (by omega)).trans ((FRr.fld (by omega)).trans (FRr.fld (by omega))), fun _ _ => rfl, Or.inl ⟨q + 1, v, rfl, pass_at.1, (h10.of (by rw [o1.1])).at.bh, hL2.bh (q := q + 1), by omega, by omega, c1, sv, hf⟩⟩
    rw [e2, e_bs, r_j72 (k := d) (by rw [wI_1, if_neg (by omega)]; exact hL.2.2.2.1), e_bs, r_pass (p := q + 1) hL2.1]
  · obtain ⟨ρ', e, fr, wr, h21⟩ := r_errs_live (f := f) (k := 1) (t := q) hL (by omega)
    have e' : f_X11_errs (PS ρ f) 1 (i32 q) = some (PS ρ' f) := e
    have e2 := r_must_no (f := f) hR.2.2.1 hL.2.1 hL.1 (Sk_same hq h32) hc
    rw [wI_id hL.1, e'] at e2
    have g21 : (wI ρ' 306 25 (i32 d)).1 306 21 = i32 q := by rw [wI_1, if_neg (by omega), h21]; exact hL.1
    refine ⟨false, wI (wI σ 144 0 1) 144 1 (i32 q), _, f, ?_, ?_, (FRx.fld (by omega)).trans (FRx.fld (by omega)), fr.trans ((FRr.fld (by omega)).trans (FRr.fld (by omega))), fun _ _ => rfl, Or.inr (Or.inl ⟨1, q, rfl, by omega, fail_at.1, fail_at.2, (wr.dep (d := d)).bh (v := i32 q)⟩)⟩
    · rw [if_neg hc, e_gF, h9, c_fail, e_bq]
    · rw [e2, e_bs, r_j72 (k := d) wr.2.2.2.2, e_bs, r_pass (p := q) g21]
/-- behind something wrong, or over: the way out of a bracket -/
theorem out_wrong {ρ : Mem} {f : SF} {rec : Mem → Int32 → Option Mem} {d k t : Nat} {p : Int32} (h : WR ρ k t (d + 1)) (h21 : ρ.1 306 21 = p) : ∃ ρ', (j_X11_readOpen_72 rec (PS ρ f)).bind (fun (σ5 : Mem) => j_X11_readFactor_134 rec σ5) = some (PS ρ' f) ∧ FRr ρ ρ' ∧ WR ρ' k t d := by
  refine ⟨wI (wI ρ 306 25 (i32 d)) 306 23 p, ?_, (FRr.fld (by omega)).trans (FRr.fld (by omega)), (h.dep (d := d)).bh⟩
  rw [r_j72 (k := d) h.2.2.2.2, e_bs]
  unfold j_X11_readFactor_134
  have g : (PS (wI ρ 306 25 (i32 d)) f).1 306 21 = p := by rw [PS_1, wI_1, if_neg (by omega)]; exact h21
  rw [e_gF, g, e_pF, PS_wI]
theorem out_dead {ρ : Mem} {f : SF} {rec : Mem → Int32 → Option Mem} {d q p : Nat} (h : DE w ρ q (d + 1) p) : ∃ ρ', (j_X11_readOpen_72 rec (PS ρ f)).bind (fun (σ5 : Mem) => j_X11_readFactor_134 rec σ5) = some (PS ρ' f) ∧ FRr ρ ρ' ∧ DE w ρ' q d p ∧ ρ'.1 306 20 = ρ.1 306 20 := by
  refine ⟨wI (wI ρ 306 25 (i32 d)) 306 23 (i32 p), ?_, (FRr.fld (by omega)).trans (FRr.fld (by omega)), (h.dep (d := d)).bh, ?_⟩
  · rw [r_j72 (k := d) h.2.2.2.2.1, e_bs]
    unfold j_X11_readFactor_134
    have g : (PS (wI ρ 306 25 (i32 d)) f).1 306 21 = i32 p := by rw [PS_1, wI_1, if_neg (by omega)]; exact h.2.2.1
    rw [e_gF, g, e_pF, PS_wI]
  · rw [wI_1, if_neg (by omega), wI_1, if_neg (by omega)]
/-- round brackets -/
theorem j_round {S : AS} {ρ : Mem} {f : SF} {recC : Mem → Int32 → Option (Bool × Mem)} {recR : Mem → Int32 → Option Mem} {s p b bc d : Nat} (jl : JWl S w recC recR (d + 1)) (hC : BC (aG S) (aR S) w σ) (hR : BR (aG S) (aR S) w ρ) (hd : d < 8) (hs : s ≤ 11 + 2 * d) (h9 : σ.1 144 9 = i32 p) (h10 : BH σ bc) (hL : LV ρ d p b) (hp : p < w.length) (hx : sn w p = 40) : ∃ r σ' ρ' f', o_X5_readFactor recC σ (i32 d) = some (r, σ') ∧ o_X11_readFactor recR (PS ρ f) (i32 s) = some (PS ρ' f') ∧ FRx (Pf d) σ σ' ∧ FRr ρ ρ' ∧ (∀ t, t < s → f' t = f t) ∧ FOut S w d s p r σ' ρ' f' := by
  have hw := hC.2.1.1
  obtain ⟨rW, _, _, lW, _, _⟩ := rows_d (d := d + 1) (by omega)
  obtain ⟨_, rF, _, _, _, _⟩ := rows_d (d := d) (by omega)
  have g9 : (wI σ 144 9 (i32 (p + 1))).1 144 9 = i32 (p + 1) := by rw [wI_1, if_pos ⟨rfl, rfl⟩]
  have g10 : BH (wI σ 144 9 (i32 (p + 1))) bc := h10.at
  have f0 : FRx (Pf d) σ (wI σ 144 9 (i32 (p + 1))) := FRx.fld (by omega)
  obtain ⟨r, σ1, ρ1, f1, e1, e2, fx, fr, kf, hout⟩ := jl (wI σ 144 9 (i32 (p + 1))) (opn ρ d p) f s (p + 1) bc (p + 1) (by omega) (hC.frx f0 (fun x hx => Pf_72 hx)) (hR.frr opn_fr) (by omega) g9 g10 (opn_lv hL) (Nat.le_refl _)
  have fx' : FRx (Pf d) σ σ1 := f0.trans (fx.mono (fun x hx => Pw_Pf hx))
  have fr' : FRr ρ ρ1 := opn_fr.trans fr
  have ec : o_X5_readFactor recC σ (i32 d) = bq (some (r, σ1)) (fun (b1 : Bool) (σ2 : Mem) => if b1 then (f_X5_signHere σ2).bind (fun (v3 : Int32) => if v3 = 41 then (gR 145 (i32 d + 1) (fun (p4 : Nat) => gR 155 (i32 d) (fun (p5 : Nat) => (f_X0_copy σ2 p4 p5).bind (fun (σ6 : Mem) => bq (f_X5_passFactor σ6) (fun (b7 : Bool) (σ8 : Mem) => some (b7, σ8)))))) else (gF σ2 144 9 (fun (v9 : Int32) => bq (f_X5_fail σ2 1 v9) (fun (b10 : Bool) (σ11 : Mem) => some (b10, σ11))))) else some (false, σ2)) := by
    rw [c_factorB hC.2.1 h9 (by omega) hx (Or.inl rfl) (by omega), if_pos hd, if_pos rfl]
    unfold o_X5_readRound
    rw [show i32 d + 1 = i32 (d + 1) from by rw [i32_1, i32_add], e1]
  have er : o_X11_readFactor recR (PS ρ f) (i32 s) = ((f_X11_must (PS ρ1 f1) 41).bind (fun (z9 : Mem) => j_X11_readOpen_72 recR z9)).bind (fun (σ5 : Mem) => j_X11_readFactor_134 recR σ5) := by
    rw [r_factorB hR.2.2.1 hL.1 (by omega) hx (Or.inl rfl), r_open hL.2.2.2.1 hL.1 hd, e2, e_bs, if_pos rfl]
  rcases hout with ⟨q, b1, b1', v, rfl, k9, k10, hL1, hb1, hpq, hq, h32, hA, sv, hf1, _⟩ | ⟨k, t, rfl, hW⟩ | ⟨t, rfl, hO, so⟩
  · have hC1 := hC.frx fx' (fun x hx => Pf_72 hx)
    have hR1 := hR.frr fr'
    obtain ⟨r2, σ2, ρ2, f2, e3, e4, fx2, fr2, kf2, ho⟩ := j_close (rec := recR) (p := p) (s := s) (c := 41) hd hC1 hR1 k9 k10 hL1 (by omega) hq h32 lW hA sv hf1 (by decide)
    refine ⟨r2, σ2, ρ2, f2, ?_, by rw [er]; exact e4, fx'.trans fx2, fr'.trans fr2, fun t ht => (kf2 t ht).trans (kf t ht), ho⟩
    rw [ec, e_bq, if_pos rfl, c_sign hC1.2.1 hq k9, e_bs, ← e3]
    by_cases h41 : sn w q = 41
    · rw [if_pos h41, if_pos h41, show i32 d + 1 = i32 (d + 1) from by rw [i32_1, i32_add], e_gR ln_145s.1 (by omega) (by omega), rW, e_gR ln_145s.2.1 (by omega) (by omega), rF]
    · rw [if_neg h41, if_neg h41]
  · obtain ⟨ρ2, e4, fr2, wr2⟩ := out_wrong (f := f1) (rec := recR) hW.2.2.2 rfl
    refine ⟨false, σ1, ρ2, f1, by rw [ec, e_bq, if_neg (by decide)], ?_, fx', fr'.trans fr2, kf, Or.inr (Or.inl ⟨k, t, rfl, hW.1, hW.2.1, hW.2.2.1, wr2⟩)⟩
    rw [er, r_must_wrong hW.2.2.2, e_bs]
    exact e4
  · obtain ⟨o1, o2, p1, de1⟩ := hO
    obtain ⟨ρ2, p2, e3, fr2, de2, _, _⟩ := r_must_dead (f := f1) (c := 41) (hR.frr fr').2.2.1 de1 (by decide)
    obtain ⟨ρ3, e4, fr3, de3, _⟩ := out_dead (f := f1) (rec := recR) de2
    refine ⟨false, σ1, ρ3, f1, by rw [ec, e_bq, if_neg (by decide)], ?_, fx', fr'.trans (fr2.trans fr3), kf, Or.inr (Or.inr ⟨t, rfl, ⟨o1, o2, p2, de3⟩, fun _ => so⟩)⟩
    rw [er, e3, e_bs]
    exact e4
theorem d_round {S : AS} {ρ : Mem} {f : SF} {recR : Mem → Int32 → Option Mem} {s p q d : Nat} (jo : JWo S w recR (d + 1)) (hR : BR (aG S) (aR S) w ρ) (hd : d < 8) (hs : s ≤ 11 + 2 * d) (hL : DE w ρ q d p) (hp : p < w.length) (hx : sn w p = 40) : ∃ ρ' f' p', o_X11_readFactor recR (PS ρ f) (i32 s) = some (PS ρ' f') ∧ FRr ρ ρ' ∧ (∀ t, t < s → f' t = f t) ∧ DE w ρ' q d p' ∧ p ≤ p' ∧ (ρ'.1 306 20 = -1 → p < p' ∧ SmV (aG S) (f' s)) := by
  obtain ⟨ρ1, f1, p1, e2, fr, kf, de1, hp1, s1⟩ := jo (opn ρ d p) f s q (p + 1) (by omega) (hR.frr opn_fr) (opn_de hL hp)
  have fr' : FRr ρ ρ1 := opn_fr.trans fr
  have er : o_X11_readFactor recR (PS ρ f) (i32 s) = ((f_X11_must (PS ρ1 f1) 41).bind (fun (z9 : Mem) => j_X11_readOpen_72 recR z9)).bind (fun (σ5 : Mem) => j_X11_readFactor_134 recR σ5) := by
    rw [r_factorB hR.2.2.1 hL.2.2.1 (by omega) hx (Or.inl rfl), r_open hL.2.2.2.2.1 hL.2.2.1 hd, e2, e_bs, if_pos rfl]
  obtain ⟨ρ2, p2, e3, fr2, de2, hp2, _⟩ := r_must_dead (f := f1) (c := 41) (hR.frr fr').2.2.1 de1 (by decide)
  obtain ⟨ρ3, e4, fr3, de3, _⟩ := out_dead (f := f1) (rec := recR) de2
  refine ⟨ρ3, f1, p2, ?_, fr'.trans (fr2.trans fr3), kf, de3, by omega, fun _ => ⟨by omega, s1⟩⟩
  rw [er, e3, e_bs]
  exact e4
end BRK
end
section
/-! square brackets; both readers -/
section SQB
variable {σ : Mem} {w : List Nat}
theorem comm_O {G : GD} (hG : GOK G) (hJ : Jac G) {c v : Nat → Int} (hv : v = O) : EqG G (mul G (inv G (mul G v c)) (mul G c v)) O := by
  subst hv
  have h1 : EqG G (mul G O c) c := O_mul hG
  have h2 : EqG G (mul G c O) c := mul_O hG
  exact ((EqG.invs hG h1).times h2).trans (inv_mul hG hJ)
theorem isEl_O {G : GD} : isEl G O = true := isEl_small (fun _ => ⟨by show (-999 : Int) ≤ 0; omega, by show (0 : Int) ≤ 999; omega⟩)
/-- the reference: another word, its commutator -/
theorem r_j22 {S : AS} {recR : Mem → Int32 → Option Mem} {ρ ρ2 : Mem} {f : SF} {s m v8 : Nat} (hs : s < 90) (e : f_X11_must (PS ρ f) 44 = some (PS ρ2 f)) (h21 : ρ2.1 306 21 = i32 v8) : j_X11_readCommutator_22 recR (i32 s) (i32 m) (PS ρ f) = (recR (PS (wI ρ2 306 23 (i32 v8)) f) (i32 (s + 1))).bind (fun (σ10 : Mem) => (f_X11_isWrong σ10).bind (fun (b11 : Bool) => if b11 then some (Sum.inr (Sum.inr σ10)) else (f_X11_commutator σ10 (i32 s) (i32 (s + 1)) (i32 (s + 2))).bind (fun (σ12 : Mem) => (f_X11_copies σ12 (i32 (s + 2)) (i32 s)).bind (fun (σ13 : Mem) => (f_X11_checks σ13 (i32 s)).bind (fun (σ14 : Mem) => bd (i32 (m + 1)) (fun (v15 : Int32) => some (Sum.inl (σ14, v15)))))))) := by
  unfold j_X11_readCommutator_22
  have g : (PS ρ2 f).1 306 21 = i32 v8 := h21
  rw [e, e_bs, e_gF, g, e_pF, PS_wI, show i32 s + 1 = i32 (s + 1) from by rw [i32_1, i32_add], show i32 s + 2 = i32 (s + 2) from by rw [i32_2, i32_add], show i32 m + 1 = i32 (m + 1) from by rw [i32_1, i32_add]]
/-- the reference's commutator of s and s + 1, at s -/
theorem r_comm {S : AS} {ρ : Mem} {f : SF} {s : Nat} (hG : GOK (aG S)) (hR : BR (aG S) (aR S) w ρ) (hs : s < 90) (s0 : SmV (aG S) (f s)) (s1 : SmV (aG S) (f (s + 1))) : ∃ g B, ((f_X11_commutator (PS ρ f) (i32 s) (i32 (s + 1)) (i32 (s + 2))).bind (fun (σ12 : Mem) => f_X11_copies σ12 (i32 (s + 2)) (i32 s))) = some (PS ρ g) ∧ g s = B ∧ B = mul (aG S) (mul (aG S) (mul (aG S) (inv (aG S) (f s)) (inv (aG S) (f (s + 1)))) (f s)) (f (s + 1)) ∧ Z6 (aG S) B ∧ ∀ t, t < s → g t = f t := by
  obtain ⟨g, e1, g1, k1⟩ := p_commutator (σ := ρ) (f := f) hR.1 hG hR.2.1 (s := s) (r := s + 1) (t := s + 2) (by omega) (by omega) (by omega) (by omega) (by omega) (B := 999) (by omega) (by omega) s0.sb s1.sb
  have e2 : f_X11_copies (PS ρ g) (i32 (s + 2)) (i32 s) = some (PS ρ (uS g s (g (s + 2)))) := p_copies (by omega) (by omega) (by omega)
  refine ⟨uS g s (g (s + 2)), g (s + 2), by rw [e1, e_bs, e2], uS_self, g1, ?_, fun t ht => by rw [uS_ne (by omega), k1 t (by omega)]⟩
  rw [g1]
  intro k h1 h2
  rw [mul_beyond hG h1, mul_beyond hG h1, mul_beyond hG h1]
  exact inv_beyond _ h1
theorem d_commas {S : AS} {recR : Mem → Int32 → Option Mem} {s d q : Nat} (hG : GOK (aG S)) (jo : JWo S w recR (d + 1)) (jw : JWw recR) (hd : d < 8) (hs : s ≤ 11 + 2 * d) (hwl : w.length ≤ 200) : ∀ (n p m : Nat) (ρ : Mem) (f : SF), w.length - p < n → m + n ≤ 1000 → BR (aG S) (aR S) w ρ → DE w ρ q (d + 1) p → SmV (aG S) (f s) → ∃ rr ρ' f' p', loopO (fun (z4 : (Mem × Int32)) => l_X11_readCommutator_2 recR (i32 s) z4.1 z4.2) (PS ρ f, i32 m) = some rr ∧ (rr = Sum.inl (PS ρ' f') ∨ rr = Sum.inr (PS ρ' f')) ∧ FRr ρ ρ' ∧ (∀ t, t < s → f' t = f t) ∧ DE w ρ' q (d + 1) p' ∧ p ≤ p' ∧ SmV (aG S) (f' s) := by
  intro n
  induction n with
  | zero => intro p m ρ f hn; exact absurd hn (Nat.not_lt_zero _)
  | succ n ih =>
    intro p m ρ f hn hmp hR hL sf
    have hp := hL.2.1
    have hL' := hL
    obtain ⟨a1, a2, a3, a4, a5, a6⟩ := hL
    -- another word, from a state where a comma may come
    have step : ∀ (ρ1 : Mem) (p1 : Nat), p ≤ p1 → FRr ρ ρ1 → DE w ρ1 q (d + 1) p1 → ρ1.1 306 20 = -1 → l_X11_readCommutator_2 recR (i32 s) (PS ρ f) (i32 m) = j_X11_readCommutator_22 recR (i32 s) (i32 m) (PS ρ1 f) → ∃ rr ρ' f' p', loopO (fun (z4 : (Mem × Int32)) => l_X11_readCommutator_2 recR (i32 s) z4.1 z4.2) (PS ρ f, i32 m) = some rr ∧ (rr = Sum.inl (PS ρ' f') ∨ rr = Sum.inr (PS ρ' f')) ∧ FRr ρ ρ' ∧ (∀ t, t < s → f' t = f t) ∧ DE w ρ' q (d + 1) p' ∧ p ≤ p' ∧ SmV (aG S) (f' s) := by
      intro ρ1 p1 hp1 fr1 de1 nw hbody
      have hR1 := hR.frr fr1
      obtain ⟨ρ2, p2, e2, fr2, de2, hp2, prog⟩ := r_must_dead (f := f) (c := 44) hR1.2.2.1 de1 (by decide)
      have e22 := r_j22 (S := S) (recR := recR) (m := m) (s := s) (by omega) e2 de2.2.2.1
      have hR3 : BR (aG S) (aR S) w (wI ρ2 306 23 (i32 p2)) := (hR1.frr fr2).frr (FRr.fld (by omega))
      have fr3 : FRr ρ (wI ρ2 306 23 (i32 p2)) := fr1.trans (fr2.trans (FRr.fld (by omega)))
      have de3 : DE w (wI ρ2 306 23 (i32 p2)) q (d + 1) p2 := de2.bh
      rcases de3.2.2.2.2.2 with n3 | ⟨t, t1, t2, t3⟩
      · have hpp : p1 < p2 := prog (by rw [wI_1, if_neg (by omega)] at n3; exact n3)
        obtain ⟨ρ4, f4, p4, e4, fr4, kf4, de4, hp4, s4⟩ := jo (wI ρ2 306 23 (i32 p2)) f (s + 1) q p2 (by omega) hR3 de3
        have fr5 := fr3.trans fr4
        have f4s : f4 s = f s := kf4 s (by omega)
        rcases de4.2.2.2.2.2 with n4 | ⟨t, t1, t2, t3⟩
        · have hR4 := hR3.frr fr4
          obtain ⟨g, B, e5, gB, _, zB, kg⟩ := r_comm (S := S) (ρ := ρ4) (f := f4) (s := s) hG hR4 (by omega) (by rw [f4s]; exact sf) s4
          obtain ⟨σ12, e5a, e5b⟩ := Option.bind_eq_some_iff.mp e5
          have e6 := r_checks_dead (f := g) (s := s) de4 hwl (by omega)
          have ew : f_X11_isWrong (PS ρ4 f4) = some false := r_isWrong_no n4
          have hgo : l_X11_readCommutator_2 recR (i32 s) (PS ρ f) (i32 m) = some (Sum.inl (PS ρ4 (uS g s O), i32 (m + 1))) := by
            rw [hbody, e22, e4, e_bs, ew, e_bs, if_neg (by decide), e5a, e_bs, e5b, e_bs, e6, e_bs, e_bd]
          obtain ⟨rr, ρ', f', p', b1, b2, b3, b4, b5, b6, b7⟩ := ih p4 (m + 1) ρ4 (uS g s O) (by have := de4.2.1; omega) (by omega) hR4 de4 (by rw [uS_self]; exact SmV.O)
          refine ⟨rr, ρ', f', p', ?_, b2, fr5.trans b3, fun t ht => ?_, b5, by omega, b7⟩
          · rw [lp_go hgo]; exact b1
          · rw [b4 t ht, uS_ne (by omega), kg t ht, kf4 t (by omega)]
        · have ew : f_X11_isWrong (PS ρ4 f4) = some true := r_isWrong_yes (t := t) (by omega) t3
          have hend : l_X11_readCommutator_2 recR (i32 s) (PS ρ f) (i32 m) = some (Sum.inr (Sum.inr (PS ρ4 f4))) := by
            rw [hbody, e22, e4, e_bs, ew, e_bs, if_pos rfl]
          exact ⟨_, ρ4, f4, p4, lp_end hend, Or.inr rfl, fr5, fun t ht => kf4 t (by omega), de4, by omega, by rw [f4s]; exact sf⟩
      · have e4 := jw (wI ρ2 306 23 (i32 p2)) f (s + 1) t (by omega) (by omega) t3
        have ew : f_X11_isWrong (PS (wI ρ2 306 23 (i32 p2)) (uS f (s + 1) (fun _ => 0))) = some true := r_isWrong_yes (t := t) (by omega) t3
        have hend : l_X11_readCommutator_2 recR (i32 s) (PS ρ f) (i32 m) = some (Sum.inr (Sum.inr (PS (wI ρ2 306 23 (i32 p2)) (uS f (s + 1) (fun _ => 0))))) := by
          rw [hbody, e22, e4, e_bs, ew, e_bs, if_pos rfl]
        exact ⟨_, _, _, p2, lp_end hend, Or.inr rfl, fr3, fun t ht => uS_ne (by omega), de3, by omega, by rw [uS_ne (by omega)]; exact sf⟩
    rcases a6 with a6 | ⟨t, t1, t2, t3⟩
    · have ew : f_X11_isWrong (PS ρ f) = some false := r_isWrong_no a6
      by_cases hm0 : m = 0
      · refine step ρ p (Nat.le_refl _) FRr.refl hL' a6 ?_
        unfold l_X11_readCommutator_2
        rw [ew, e_bs, if_neg (by decide), hm0, if_pos (show i32 0 = 0 from rfl), e_bs]
        rfl
      · obtain ⟨q1, hsk⟩ := Sk_ex w (w.length - p) p a2 (Nat.le_refl _)
        have g21 : (PS ρ f).1 306 21 = i32 p := a3
        have hb : l_X11_readCommutator_2 recR (i32 s) (PS ρ f) (i32 m) = (if sn w q1 = 44 then (some (Sum.inl (PS (wI ρ 306 21 (i32 q1)) f))) else (some (Sum.inr (Sum.inr (Sum.inl (PS (wI ρ 306 21 (i32 q1)) f))))) : Option (Mem ⊕ ((Mem × Int32) ⊕ (Mem ⊕ Mem)))).bind (Sum.elim (fun (z6 : Mem) => j_X11_readCommutator_22 recR (i32 s) (i32 m) z6) some) := by
          unfold l_X11_readCommutator_2
          rw [ew, e_bs, if_neg (by decide), if_neg (i_ne0 hm0 (by omega)), r_skip (σ := PS ρ f) hR.2.2.1 g21 hsk, e_bq, PS_wI]
        by_cases h44 : sn w q1 = 44
        · refine step (wI ρ 306 21 (i32 q1)) q1 hsk.1 (FRr.fld (by omega)) (hL'.at hsk.1 hsk.2.1) (by rw [wI_1, if_neg (by omega)]; exact a6) ?_
          rw [hb, if_pos h44, e_bs]
          rfl
        · have hend : l_X11_readCommutator_2 recR (i32 s) (PS ρ f) (i32 m) = some (Sum.inr (Sum.inl (PS (wI ρ 306 21 (i32 q1)) f))) := by
            rw [hb, if_neg h44, e_bs]
            rfl
          exact ⟨_, _, f, q1, lp_end hend, Or.inl rfl, FRr.fld (by omega), fun _ _ => rfl, hL'.at hsk.1 hsk.2.1, hsk.1, sf⟩
    · have ew : f_X11_isWrong (PS ρ f) = some true := r_isWrong_yes (t := t) (by omega) t3
      have hend : l_X11_readCommutator_2 recR (i32 s) (PS ρ f) (i32 m) = some (Sum.inr (Sum.inl (PS ρ f))) := by
        unfold l_X11_readCommutator_2
        rw [ew, e_bs, if_pos rfl]
      exact ⟨_, ρ, f, p, lp_end hend, Or.inl rfl, FRr.refl, fun _ _ => rfl, hL', Nat.le_refl _, sf⟩
/-- what the commas' part comes to -/
def COut (S : AS) (w : List Nat) (d s p : Nat) (rc : Mem ⊕ (Mem ⊕ (Bool × Mem))) (rr : Mem ⊕ Mem) (σ' ρ' : Mem) (f' : SF) : Prop := (∃ q b b' c, rc = Sum.inr (Sum.inl σ') ∧ rr = Sum.inl (PS ρ' f') ∧ σ'.1 144 9 = i32 q ∧ BH σ' b' ∧ LV ρ' (d + 1) q b ∧ p ≤ q ∧ q ≤ w.length ∧ sn w q ≠ 32 ∧ H6 σ' (166 + d) c ∧ SmV (aG S) c ∧ f' s = c) ∨ (∃ k t, rc = Sum.inr (Sum.inr (false, σ')) ∧ rr = Sum.inr (PS ρ' f') ∧ WJ σ' ρ' (d + 1) k t) ∨ (∃ t, rc = Sum.inr (Sum.inr (false, σ')) ∧ (rr = Sum.inl (PS ρ' f') ∨ rr = Sum.inr (PS ρ' f')) ∧ OJ w σ' ρ' (d + 1) t ∧ SmV (aG S) (f' s)) ∨ (∃ t p', rc = Sum.inl σ' ∧ (rr = Sum.inl (PS ρ' f') ∨ rr = Sum.inr (PS ρ' f')) ∧ σ'.1 144 10 = i32 t ∧ DE w ρ' t (d + 1) p' ∧ SmV (aG S) (f' s))
theorem j_commas {S : AS} {recC : Mem → Int32 → Option (Bool × Mem)} {recR : Mem → Int32 → Option Mem} {s d : Nat} (hG : GOK (aG S)) (hJ : Jac (aG S)) (jl : JWl S w recC recR (d + 1)) (jo : JWo S w recR (d + 1)) (jw : JWw recR) (hd : d < 8) (hs : s ≤ 11 + 2 * d) (hwl : w.length ≤ 200) : ∀ (n p m b bc : Nat) (σ ρ : Mem) (f : SF) (c : Nat → Int), w.length - p < n → m < p → p ≤ w.length → BC (aG S) (aR S) w σ → BR (aG S) (aR S) w ρ → σ.1 144 9 = i32 p → BH σ bc → LV ρ (d + 1) p b → b ≤ p → sn w p ≠ 32 → (m = 0 → sn w p = 44) → H6 σ (166 + d) c → SmV (aG S) c → f s = c → ∃ rc rr σ' ρ' f', loopO (fun (z21 : (Mem × Int32)) => l_X5_readSquare_52 recC (i32 d) (166 + d) z21.1 z21.2) (σ, i32 m) = some rc ∧ loopO (fun (z4 : (Mem × Int32)) => l_X11_readCommutator_2 recR (i32 s) z4.1 z4.2) (PS ρ f, i32 m) = some rr ∧ FRx (Pf d) σ σ' ∧ FRr ρ ρ' ∧ (∀ t, t < s → f' t = f t) ∧ COut S w d s p rc rr σ' ρ' f' := by
  intro n
  induction n with
  | zero => intro p m b bc σ ρ f c hn; exact absurd hn (Nat.not_lt_zero _)
  | succ n ih =>
    intro p m b bc σ ρ f c hn hmp hp hC hR h9 h10 hL hb h32 hm44 hA sc hf
    obtain ⟨rW, _, _, lW, _, _⟩ := rows_d (d := d + 1) (by omega)
    obtain ⟨_, _, rCm, _, _, lC⟩ := rows_d (d := d) (by omega)
    have ew : f_X11_isWrong (PS ρ f) = some false := r_isWrong_no hL.2.1
    have g21 : (PS ρ f).1 306 21 = i32 p := hL.1
    by_cases h44 : sn w p = 44
    · have hlt := sn_lt h44 (by decide)
      -- the reference's body
      have hb0 : l_X11_readCommutator_2 recR (i32 s) (PS ρ f) (i32 m) = j_X11_readCommutator_22 recR (i32 s) (i32 m) (PS ρ f) := by
        unfold l_X11_readCommutator_2
        rw [ew, e_bs, if_neg (by decide)]
        by_cases hm0 : m = 0
        · rw [hm0, if_pos (show i32 0 = 0 from rfl), e_bs]; rfl
        · rw [if_neg (i_ne0 hm0 (by omega)), r_skip (σ := PS ρ f) hR.2.2.1 g21 (Sk_same hp h32), e_bq, wI_id g21, if_pos h44, e_bs]; rfl
      have e2 := r_must_yes (f := f) hR.2.2.1 hL.2.1 hL.1 hp h32 h44
      have e22 := r_j22 (S := S) (recR := recR) (m := m) (s := s) (v8 := p + 1) (by omega) e2 (by rw [wI_1, if_pos ⟨rfl, rfl⟩])
      -- the class's body
      have g9 : (wI σ 144 9 (i32 (p + 1))).1 144 9 = i32 (p + 1) := by rw [wI_1, if_pos ⟨rfl, rfl⟩]
      have f0 : FRx (Pf d) σ (wI σ 144 9 (i32 (p + 1))) := FRx.fld (by omega)
      have fr0 : FRr ρ (wI (wI ρ 306 21 (i32 (p + 1))) 306 23 (i32 (p + 1))) := (FRr.fld (by omega)).trans (FRr.fld (by omega))
      obtain ⟨r, σ1, ρ1, f1, e3, e4, fx, fr, kf, hout⟩ := jl (wI σ 144 9 (i32 (p + 1))) (wI (wI ρ 306 21 (i32 (p + 1))) 306 23 (i32 (p + 1))) f (s + 1) (p + 1) bc (p + 1) (by omega) (hC.frx f0 (fun x hx => Pf_72 hx)) (hR.frr fr0) (by omega) g9 h10.at ((hL.at (q := p + 1)).bh (q := p + 1)) (Nat.le_refl _)
      have fx1 : FRx (Pf d) σ σ1 := f0.trans (fx.mono (fun x hx => Pw_Pf hx))
      have fr1 : FRr ρ ρ1 := fr0.trans fr
      have f1s : f1 s = c := by rw [kf s (by omega), hf]
      have hcl : l_X5_readSquare_52 recC (i32 d) (166 + d) σ (i32 m) = if r = true then (f_X0_commutator σ1 (166 + d) (166 + d) (147 + d)).bind (fun (σ28 : Mem) => (f_X0_isWithin σ28 (166 + d) 999).bind (fun (b29 : Bool) => if b29 then some (Sum.inl (σ28, i32 (m + 1))) else some (Sum.inr (Sum.inl σ28)))) else some (Sum.inr (Sum.inr (Sum.inr (false, σ1)))) := by
        unfold l_X5_readSquare_52
        rw [show (200 : Int32) = i32 200 from rfl, if_neg (i_nle (by omega) (by omega)), c_sign hC.2.1 hp h9, e_bs, if_pos h44, e_gF, h9, i32_1, i32_add, e_pF, i32_add, e3, e_bq, e_gR ln_145s.1 (by omega) (by omega), rW, i32_add, show 146 + (d + 1) = 147 + d by omega]
      have hrl : l_X11_readCommutator_2 recR (i32 s) (PS ρ f) (i32 m) = (f_X11_isWrong (PS ρ1 f1)).bind (fun (b11 : Bool) => if b11 then some (Sum.inr (Sum.inr (PS ρ1 f1))) else (f_X11_commutator (PS ρ1 f1) (i32 s) (i32 (s + 1)) (i32 (s + 2))).bind (fun (σ12 : Mem) => (f_X11_copies σ12 (i32 (s + 2)) (i32 s)).bind (fun (σ13 : Mem) => (f_X11_checks σ13 (i32 s)).bind (fun (σ14 : Mem) => bd (i32 (m + 1)) (fun (v15 : Int32) => some (Sum.inl (σ14, v15))))))) := by
        rw [hb0, e22, e4, e_bs]
      rcases hout with ⟨q, b1, b1', v, rfl, k9, k10, hL1, hb1, hpq, hq, hq32, hAv, sv, hf1, hbv⟩ | ⟨k, t, rfl, hW⟩ | ⟨t, rfl, hO, so⟩
      · -- the word read: the commutator
        have hC1 := hC.frx fx1 (fun x hx => Pf_72 hx)
        have hR1 := hR.frr fr1
        have hA1 : H6 σ1 (166 + d) c := hA.row (by
          have h1 : σ1.2 (166 + d) = (wI σ 144 9 (i32 (p + 1))).2 (166 + d) := fx.2.2 _ (by unfold Pw; omega)
          exact h1)
        have n166 : notSum (166 + d) := fun k hk => by omega
        have lW' : ln (147 + d) = 6 := by rw [show 147 + d = 146 + (d + 1) by omega]; exact lW
        have hAv' : H6 σ1 (147 + d) v := by rw [show 147 + d = 146 + (d + 1) by omega]; exact hAv
        obtain ⟨σ2, e5, o2, c2⟩ := c_commutator hG (hC1.poly hG) (out := 166 + d) (a := 166 + d) (b := 147 + d) lC lC lW' hA1 hAv' (by omega) (by omega) n166 (by omega) (by omega) (M := 999) (by omega) (by omega) sc.sb sv.sb sc.z6 sv.z6
        have zc : Z6 (aG S) (mul (aG S) (inv (aG S) (mul (aG S) v c)) (mul (aG S) c v)) := Z6.muls hG Z6.invs
        have e6 := c_isElement hG lC c2 zc
        have fx2 : FRx (Pf d) σ1 σ2 := o2.frx (fun y hy => by unfold Pf; omega)
        obtain ⟨g, B, e7, gB, hB, zB, kg⟩ := r_comm (S := S) (ρ := ρ1) (f := f1) (s := s) hG hR1 (by omega) (by rw [f1s]; exact sc) (by rw [hf1]; exact sv)
        rw [f1s, hf1] at hB
        have hBe : EqG (aG S) B (mul (aG S) (inv (aG S) (mul (aG S) v c)) (mul (aG S) c v)) := by
          rw [hB]
          exact (comm_eq hG hJ).symm
        have hee := isEl_congr hBe
        obtain ⟨σ12, e7a, e7b⟩ := Option.bind_eq_some_iff.mp e7
        have ew1 : f_X11_isWrong (PS ρ1 f1) = some false := r_isWrong_no hL1.2.1
        rw [ew1, e_bs, if_neg (by decide), e7a, e_bs, e7b, e_bs] at hrl
        rw [if_pos rfl, e5, e_bs, e6, e_bs] at hcl
        have hk9 : σ2.1 144 9 = i32 q := by rw [o2.1]; exact k9
        have hk10 : BH σ2 b1' := k10.of (by rw [o2.1])
        rcases r_checks_live (w := w) (f := g) (s := s) hG hR1.1 hL1 hq hwl hb1 (by omega) gB zB with ⟨hel, e8⟩ | ⟨hel, ρ2, e8, fr2, de2⟩
        · have hel2 : isEl (aG S) (mul (aG S) (inv (aG S) (mul (aG S) v c)) (mul (aG S) c v)) = true := by rw [← hee]; exact hel
          rw [hel2, if_pos rfl] at hcl
          rw [e8, e_bs, e_bd] at hrl
          have hnr := nrm_congr hBe
          obtain ⟨rc, rr, σ', ρ', f', b1, b2, b3, b4, b5, b6⟩ := ih q (m + 1) _ _ σ2 ρ1 (uS g s (nrm (aG S) B)) (nrm (aG S) B) (by omega) (by omega) hq (hC1.frx fx2 (fun x hx => Pf_72 hx)) hR1 hk9 hk10 hL1 hb1 hq32 (fun z => by omega) (by rw [hnr]; exact c2.nrm zc) (nrm_sm hel) uS_self
          refine ⟨rc, rr, σ', ρ', f', by rw [lp_go hcl]; exact b1, by rw [lp_go hrl]; exact b2, fx1.trans (fx2.trans b3), fr1.trans b4, fun t ht => by rw [b5 t ht, uS_ne (by omega), kg t ht, kf t (by omega)], ?_⟩
          rcases b6 with ⟨q', b', b'', c', x1, x2, x3, x3', x4, x5, x6⟩ | x | x | x
          · exact Or.inl ⟨q', b', b'', c', x1, x2, x3, x3', x4, by omega, x6⟩
          · exact Or.inr (Or.inl x)
          · exact Or.inr (Or.inr (Or.inl x))
          · exact Or.inr (Or.inr (Or.inr x))
        · have hel2 : isEl (aG S) (mul (aG S) (inv (aG S) (mul (aG S) v c)) (mul (aG S) c v)) = false := by rw [← hee]; exact hel
          rw [hel2, if_neg (by decide)] at hcl
          rw [e8, e_bs, e_bd] at hrl
          have hbb : b1' = b1 := by
            rcases hbv with z | z
            · exact z
            · have := isEl_congr (comm_O hG hJ (c := c) z)
              rw [hel2, isEl_O] at this
              cases this
          obtain ⟨rr, ρ', f', p', b1, b2, b3, b4, b5, b6, b7⟩ := d_commas hG jo jw hd hs hwl (w.length - q + 1) q (m + 1) ρ2 (uS g s O) (by omega) (by omega) (hR1.frr fr2) de2 (by rw [uS_self]; exact SmV.O)
          refine ⟨_, rr, σ2, ρ', f', lp_end hcl, by rw [lp_go hrl]; exact b1, fx1.trans fx2, fr1.trans (fr2.trans b3), fun t ht => by rw [b4 t ht, uS_ne (by omega), kg t ht, kf t (by omega)], Or.inr (Or.inr (Or.inr ⟨_, p', rfl, b2, by rw [hk10.1, hbb], b5, b7⟩))⟩
      · rw [if_neg (by decide)] at hcl
        have ew1 : f_X11_isWrong (PS ρ1 f1) = some true := r_isWrong_yes (t := t) (by have := hW.2.2.2.1; omega) hW.2.2.2.2.2.1
        rw [ew1, e_bs, if_pos rfl] at hrl
        exact ⟨_, _, σ1, ρ1, f1, lp_end hcl, lp_end hrl, fx1, fr1, fun t ht => kf t (by omega), Or.inr (Or.inl ⟨k, t, rfl, rfl, hW⟩)⟩
      · rw [if_neg (by decide)] at hcl
        obtain ⟨o1, o2, p1, de1⟩ := hO
        have hR1 := hR.frr fr1
        rcases de1.2.2.2.2.2 with n4 | ⟨t', t1, t2, t3⟩
        · have ew1 : f_X11_isWrong (PS ρ1 f1) = some false := r_isWrong_no n4
          obtain ⟨g, B, e7, gB, hB, zB, kg⟩ := r_comm (S := S) (ρ := ρ1) (f := f1) (s := s) hG hR1 (by omega) (by rw [f1s]; exact sc) so
          obtain ⟨σ12, e7a, e7b⟩ := Option.bind_eq_some_iff.mp e7
          have e8 := r_checks_dead (f := g) (s := s) de1 hwl (by omega)
          rw [ew1, e_bs, if_neg (by decide), e7a, e_bs, e7b, e_bs, e8, e_bs, e_bd] at hrl
          obtain ⟨rr, ρ', f', p', b1, b2, b3, b4, b5, b6, b7⟩ := d_commas hG jo jw hd hs hwl (w.length - p1 + 1) p1 (m + 1) ρ1 (uS g s O) (by omega) (by omega) hR1 de1 (by rw [uS_self]; exact SmV.O)
          exact ⟨_, rr, σ1, ρ', f', lp_end hcl, by rw [lp_go hrl]; exact b1, fx1, fr1.trans b3, fun t ht => by rw [b4 t ht, uS_ne (by omega), kg t ht, kf t (by omega)], Or.inr (Or.inr (Or.inl ⟨t, rfl, b2, ⟨o1, o2, p', b5⟩, b7⟩))⟩
        · have ew1 : f_X11_isWrong (PS ρ1 f1) = some true := r_isWrong_yes (t := t') (by omega) t3
          rw [ew1, e_bs, if_pos rfl] at hrl
          exact ⟨_, _, σ1, ρ1, f1, lp_end hcl, lp_end hrl, fx1, fr1, fun t ht => kf t (by omega), Or.inr (Or.inr (Or.inl ⟨t, rfl, Or.inr rfl, ⟨o1, o2, p1, de1⟩, by rw [f1s]; exact sc⟩))⟩
    · -- no comma: both are through
      have hm0 : m ≠ 0 := fun z => h44 (hm44 z)
      have hcl : l_X5_readSquare_52 recC (i32 d) (166 + d) σ (i32 m) = some (Sum.inr (Sum.inr (Sum.inl σ))) := by
        unfold l_X5_readSquare_52
        rw [show (200 : Int32) = i32 200 from rfl, if_neg (i_nle (by omega) (by omega)), c_sign hC.2.1 hp h9, e_bs, if_neg h44]
      have hrl : l_X11_readCommutator_2 recR (i32 s) (PS ρ f) (i32 m) = some (Sum.inr (Sum.inl (PS ρ f))) := by
        unfold l_X11_readCommutator_2
        rw [ew, e_bs, if_neg (by decide), if_neg (i_ne0 hm0 (by omega)), r_skip (σ := PS ρ f) hR.2.2.1 g21 (Sk_same hp h32), e_bq, wI_id g21, if_neg h44, e_bs]
        rfl
      exact ⟨_, _, σ, ρ, f, lp_end hcl, lp_end hrl, FRx.refl, FRr.refl, fun _ _ => rfl, Or.inl ⟨p, b, bc, c, rfl, rfl, h9, h10, hL, Nat.le_refl _, hp, h32, hA, sc, hf⟩⟩
end SQB
end
