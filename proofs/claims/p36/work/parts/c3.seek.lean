/-! seek: the call -/
section SEK
variable {σ : Mem} {G : GD}
theorem gap_low (hG : GOK G) {A Y u w : Nat → Int} : gapv G A Y 0 u = gapv G A Y 0 w := gap_local hG (fun i hi => absurd hi (Nat.not_lt_zero i))
theorem Bx_0 {b : Int} {w : Nat → Int} (h : Bx b 0 w) : w = O := funext (fun i => h.2 i (Nat.zero_le _))
theorem CU.ol {u : Nat → Int} {P : Nat → Prop} {τ : Mem} {p : Nat → Prop} (h : CU G σ u p) (o : OL P σ τ) (h1 : ¬ P 100) (h2 : ¬ P 103) : CU G τ u p := by
  obtain ⟨a, x, hx, hT⟩ := h
  exact ⟨fun i hi hp => by rw [o.2 103 h2]; exact a i hi hp, x, hx, TbU.keep hT o h1⟩
theorem c_findWithin {A Y : Nat → Int} {b f : Nat} (hG : GOK G) (hb : 1 ≤ b ∧ b ≤ 3) (hf : f ≤ 5) (hfn : f < gn G) (hg : GapOK G σ A Y) (h : CU G σ O (fun _ => True)) (hc : ∀ k, k < (if f = 0 then 6 else 1) → oi (gapv G A Y k O) = 0) : ∃ r τ, f_X7_findWithin σ (i32 b) (i32 f) = some (r, τ) ∧ OL (fun x => x = 100 ∨ x = 103) σ τ ∧ ((r = true ∧ ∃ u, Fst G A Y b f u ∧ CU G τ u (fun _ => True)) ∨ (r = false ∧ ∀ w, Bx b f w → ¬ Kx G A Y w)) := by
  unfold f_X7_findWithin
  by_cases hf0 : f = 0
  · subst hf0
    rw [if_pos (show i32 0 = 0 from rfl), e_bs]
    unfold j_X7_findWithin_15
    obtain ⟨τ, e, o, c⟩ := c_setU (i := 0) (y := 0) (by omega) (fun _ => by unfold two64ok; omega) h
    have c' : CU G τ O (fun _ => True) := c.congr (fun v _ => by
      unfold uV
      by_cases hv : v = 0
      · rw [if_pos hv]; rfl
      · rw [if_neg hv]) (fun _ _ _ => Or.inl trivial)
    have e' : f_X7_setU σ 0 0 = some τ := e
    have hl : loopO (fun (z7 : (Mem × Int32 × Int32)) => l_X7_findWithin_21 (i32 b) (i32 0) z7.1 z7.2.1 z7.2.2) (τ, 0, 0) = some (Sum.inl (τ, 0)) := by
      refine loop_up (body := fun (z7 : (Mem × Int32 × Int32)) => l_X7_findWithin_21 (i32 b) (i32 0) z7.1 z7.2.1 z7.2.2) (fun _ => (τ, 0, 0)) 0 0 _ (Nat.le_refl _) (fun k _ hk => by omega) ?_
      show l_X7_findWithin_21 (i32 b) (i32 0) τ 0 0 = _
      unfold l_X7_findWithin_21
      rw [if_neg (by decide), if_pos (show i32 0 ≤ 0 by decide)]
    rw [e', e_bs, hl, e_bs]
    show ∃ r τ', j_X7_findWithin_133 (i32 0) τ 0 = some (r, τ') ∧ _
    unfold j_X7_findWithin_133
    rw [if_neg (show ¬ (0 : Int32) < i32 0 by decide)]
    rw [if_pos rfl] at hc
    exact ⟨true, τ, rfl, o, Or.inl ⟨rfl, O, ⟨⟨fun i hi => absurd hi (Nat.not_lt_zero i), fun _ _ => rfl⟩, fun k hk => hc k hk, fun w _ _ ⟨j, hj, _⟩ => absurd hj (Nat.not_lt_zero j)⟩, c'⟩⟩
  · rw [if_neg (i_ne0 hf0 (by omega)), e_bs]
    rw [if_neg hf0] at hc
    unfold j_X7_findWithin_15
    obtain ⟨τ, e, o, c⟩ := c_setU (i := 0) (y := -(b : Int)) (by omega) (fun _ => by unfold two64ok; omega) h
    have c' : CU G τ (uV O 0 (-(b : Int))) (fun _ => True) := c.congr (fun _ _ => rfl) (fun _ _ _ => Or.inl trivial)
    have e' : f_X7_setU σ 0 (oi (-(b : Int))) = some τ := e
    have hg' : GapOK G τ A Y := hg.eqs (fun x h1 h2 => ⟨by rw [o.1], o.2 x (by omega)⟩)
    obtain ⟨r, e2, τ2, o2, hr⟩ := c_findLoopU hG hb ⟨by omega, hf⟩ hfn hg' c' (by
      refine ⟨fun p hp => absurd hp (Nat.not_lt_zero _), fun _ => by rw [uV_self]; omega, fun p hp => ?_, fun p hp => by rw [uV_ne (by omega)]; rfl, fun k h1 h2 => ?_, fun w hw _ ⟨j, hj, hjf, _, h2⟩ => ?_⟩
      · by_cases hp0 : p = 0
        · rw [hp0, uV_self]; omega
        · rw [uV_ne hp0]; exact Or.inr rfl
      · have : k = 0 := by omega
        subst this
        rw [gap_low hG (w := O)]
        exact hc 0 (by omega)
      · have : j = 0 := by omega
        subst this
        rw [uV_self] at h2
        have := (hw.1 0 (by omega)).1
        omega) uV_self
    rw [neg_b hb.2, e', e_bs, e2, e_bs]
    rcases hr with ⟨u, rfl, hu, cu⟩ | ⟨rfl, hno⟩
    · show ∃ r τ', j_X7_findWithin_133 (i32 f) τ2 (i32 f) = some (r, τ') ∧ _
      unfold j_X7_findWithin_133
      rw [if_neg (i_nlt (Nat.le_refl _) (by omega))]
      exact ⟨true, τ2, rfl, o.trans o2, Or.inl ⟨rfl, u, hu, cu⟩⟩
    · exact ⟨false, τ2, rfl, o.trans o2, Or.inr ⟨rfl, hno⟩⟩
/-- what the class's search changes -/
def FSk (out : Nat) (σ τ : Mem) : Prop := (∀ x, x < 104 ∨ 127 < x → τ.1 x = σ.1 x) ∧ ∀ x, x ≠ 100 → x ≠ 103 → x ≠ out → x < 104 ∨ 127 < x → τ.2 x = σ.2 x
theorem c_conjugator {out a y : Nat} {A Y : Nat → Int} {b : Nat} (hG : GOK G) (hP : CPoly G σ) (h41 : CG σ 41 G) (ho : ln out = 6) (ha : ln a = 6) (hy : ln y = 6) (hA : H6 σ a A) (hB : H6 σ y Y) (ha3 : a ≠ 100) (hy3 : y ≠ 100) (wA : W1 G A) (wB : W1 G Y) (hb : 1 ≤ b ∧ b ≤ 3) : ∃ r τ, f_X7_conjugator σ out a y (i32 b) = some (r, τ) ∧ FSk out σ τ ∧ ((r = true ∧ ∃ u, Fst G A Y b (fre G) u ∧ H6 τ out u) ∨ (r = false ∧ ∀ w, Bx b (fre G) w → ¬ Kx G A Y w)) := by
  have hn := hG.2.1
  have hfr := fre_lt hG
  unfold f_X7_conjugator
  obtain ⟨σ1, e1, f1, g1, t1⟩ := c_findGaps hG hP ha hy hA hB ha3 hy3 wA wB
  obtain ⟨σ2, e2, o2, c2⟩ := c_putU (σ := σ1) (G := G) (y := 0) (by unfold two64ok; omega)
  have c2' : CU G σ2 O (fun _ => True) := c2
  have g2 : GapOK G σ2 A Y := g1.eqs (fun x h1 h2 => ⟨by rw [o2.1], o2.2 x (by omega)⟩)
  have F2 : FSk out σ σ2 := ⟨fun x hx => by rw [o2.1]; exact f1.1 x hx, fun x h1 h2 _ h4 => by rw [o2.2 x (by omega)]; exact f1.2 x h1 h4⟩
  have h41' : CG σ2 41 G := by
    unfold CG
    rw [F2.1 41 (by omega), F2.1 (41 + 1) (by omega), F2.1 (41 + 2) (by omega)]
    exact h41
  have e2' : f_X7_putU σ1 0 = some σ2 := e2
  rw [e1, e_bs, e2', e_bs, c_free hG h41', e_bs]
  unfold j_X7_conjugator_74
  have em : (if i32 (fre G) = 0 then (some 6) else (some 1) : Option Int32) = some (i32 (if fre G = 0 then 6 else 1)) := by
    by_cases q : fre G = 0
    · rw [if_pos (by rw [q]; rfl), if_pos q]; rfl
    · rw [if_neg (i_ne0 q (by omega)), if_neg q]; rfl
  rw [em, e_bs]
  unfold j_X7_conjugator_87
  obtain ⟨bc, ec, hbc⟩ := c_areClosed (s := 0) (m := if fre G = 0 then 6 else 1) g2 c2' (by omega) (by split <;> omega)
  have ec' : f_X7_areClosed σ2 0 (i32 (if fre G = 0 then 6 else 1)) = some bc := ec
  rw [ec', e_bs]
  cases hbt : bc with
  | false =>
    rw [if_neg (by decide)]
    refine ⟨false, σ2, rfl, F2, Or.inr ⟨rfl, fun w hw hk => ?_⟩⟩
    have : bc = true := hbc.mpr (fun k _ hk2 => by
      by_cases q : fre G = 0
      · rw [if_pos q] at hk2
        rw [q] at hw
        rw [← Bx_0 hw]
        exact hk k hk2
      · rw [if_neg q] at hk2
        have hk0 : k = 0 := by omega
        subst hk0
        rw [gap_low hG (w := w)]
        exact hk 0 (by omega))
    rw [hbt] at this
    cases this
  | true =>
    rw [if_pos rfl]
    have hcl := hbc.mp hbt
    obtain ⟨r, τ, e3, o3, hr⟩ := c_findWithin (f := fre G) hG hb (by omega) hfr g2 c2' (fun k hk => hcl k (Nat.zero_le _) hk)
    have F3 : FSk out σ τ := ⟨fun x hx => by rw [o3.1]; exact F2.1 x hx, fun x h1 h2 h3 h4 => by rw [o3.2 x (by omega)]; exact F2.2 x h1 h2 h3 h4⟩
    rw [e3, e_bq]
    rcases hr with ⟨rfl, u, hu, cu⟩ | ⟨rfl, hno⟩
    · obtain ⟨τ2, e4, o4, r4⟩ := c_copy (σ := τ) (a := 103) (b := out) (A := u) ln_103 ho (fun k hk => cu.1 k hk trivial)
      rw [if_pos rfl, e4, e_bs]
      exact ⟨true, τ2, rfl, ⟨fun x hx => by rw [o4.1]; exact F3.1 x hx, fun x h1 h2 h3 h4 => by rw [o4.2 x h3]; exact F3.2 x h1 h2 h3 h4⟩, Or.inl ⟨rfl, u, hu, r4⟩⟩
    · rw [if_neg (by decide)]
      exact ⟨false, τ, rfl, F3, Or.inr ⟨rfl, hno⟩⟩
/-- the reference's test is the gaps' -/
theorem conj_iff (hG : GOK G) (hJ : Jac G) {A Y u : Nat → Int} (sA : SB G 999 A) (sY : SB G 999 Y) : areS G (mul G (mul G (inv G u) A) u) Y = true ↔ Kx G A Y u := by
  have hn := hG.2.1
  have huc : EqG G (mul G u (mul G (mul G (inv G u) A) u)) (mul G A u) := by
    have h1 : EqG G (mul G (mul G (inv G u) A) u) (mul G (inv G u) (mul G A u)) := (conj_eq hG hJ).symm
    have h2 : EqG G (mul G u (mul G (inv G u) (mul G A u))) (mul G (mul G u (inv G u)) (mul G A u)) := (massoc hG hJ).symm
    have h3 : EqG G (mul G (mul G u (inv G u)) (mul G A u)) (mul G O (mul G A u)) := (mul_inv hG).times EqG.refl
    exact ((EqG.refl.times h1).trans h2).trans (h3.trans (O_mul hG))
  have c1 : ∀ i, gw G i = 1 → mul G (mul G (inv G u) A) u i = A i := fun i hw => by
    have hi := gn_of_one hG hw
    rw [mul_one hG (by omega) hi, mul_one hG (by omega) hi, inv_one hG (by omega) hi]
    omega
  have small : ∀ i, gw G i = 1 → oi (A i) = oi (Y i) → A i = Y i := fun i hw h => by
    have hi := gn_of_one hG hw
    have h1 := sA i hi hw
    have h2 := sY i hi hw
    have := congrArg Int64.toInt h
    rwa [oi_toInt (by omega) (by omega), oi_toInt (by omega) (by omega)] at this
  have key : (∀ i, gw G i = 1 → A i = Y i) → ∀ m, m < gn G → gapv G A Y m u = mul G (mul G (inv G u) A) u m - Y m := by
    intro h m hm
    have h1 := mul_rw1 hG (a := u) (x := mul G (mul G (inv G u) A) u) (y := Y) hm (fun i hw => by rw [c1 i hw, h i hw])
    rw [huc m hm] at h1
    unfold gapv
    rw [if_pos hm]
    omega
  rw [areS_iff]
  constructor
  · intro h k hk
    by_cases hkn : k < gn G
    · rw [key (fun i hw => small i hw (by rw [← c1 i hw]; exact h i (gn_of_one hG hw))) k hkn, ← oi_sub, h k hkn, Int64.sub_self]
    · unfold gapv
      rw [if_neg hkn]; rfl
  · intro h
    have h1 : ∀ i, gw G i = 1 → A i = Y i := fun i hw => by
      have hi := gn_of_one hG hw
      have hg := h i (by omega)
      unfold gapv at hg
      rw [if_pos hi, mul_one hG (by omega) hi, mul_one hG (by omega) hi, show A i + u i - (u i + Y i) = A i - Y i by omega] at hg
      have h1 := sA i hi hw
      have h2 := sY i hi hw
      have := congrArg Int64.toInt hg
      rw [oi_toInt (by omega) (by omega)] at this
      have h0 : (0 : Int64).toInt = 0 := rfl
      omega
    intro k hk
    have hg := h k (by omega)
    rw [key h1 k hk, ← oi_sub] at hg
    have := congrArg (fun z => z + oi (Y k)) hg
    simp only [Int64.sub_add_cancel, Int64.zero_add] at this
    exact this
def BxI (b : Int) (f i : Nat) (u v : Nat → Int) : Prop := (∀ p, p < i → v p = u p) ∧ (∀ p, i ≤ p → p < f → -b ≤ v p ∧ v p ≤ b) ∧ ∀ p, f ≤ p → v p = 0
theorem uV_id {u : Nat → Int} {i : Nat} (h : u i = 0) (y : Int) : uV (uV u i y) i 0 = u := by
  funext p
  by_cases hp : p = i
  · rw [hp, uV_self, h]
  · rw [uV_ne hp, uV_ne hp]
theorem uV_uV {u : Nat → Int} {i : Nat} {y z : Int} : uV (uV u i y) i z = uV u i z := by
  funext p
  by_cases hp : p = i
  · rw [hp, uV_self, uV_self]
  · rw [uV_ne hp, uV_ne hp, uV_ne hp]
theorem r_seeks {A Y : Nat → Int} {b : Nat} (hG : GOK G) (hJ : Jac G) (hM : MG σ G) (h0 : M0 σ) (hb : 1 ≤ b ∧ b ≤ 3) (sA : SB G 999 A) (sY : SB G 999 Y) : ∀ (d i fuel : Nat) (g : SF) (u : Nat → Int), i + d = fre G → d < fuel → g 0 = A → g 1 = Y → g 2 = u → (∀ p, p < i → -3 ≤ u p ∧ u p ≤ 3) → (∀ p, i ≤ p → u p = 0) → ∃ r g', f_X11_seeks fuel (PS σ g) (i32 i) (i32 b) = some (r, PS σ g') ∧ g' 0 = A ∧ g' 1 = Y ∧ ((r = true ∧ BxI b (fre G) i u (g' 2) ∧ Kx G A Y (g' 2) ∧ ∀ v, BxI b (fre G) i u v → Kx G A Y v → ¬ Lxl (fre G) v (g' 2)) ∨ (r = false ∧ g' 2 = u ∧ ∀ v, BxI b (fre G) i u v → ¬ Kx G A Y v))
  | 0, i, 0, g, u, _, hd, _, _, _, _, _ => absurd hd (Nat.lt_irrefl _)
  | 0, i, fuel + 1, g, u, hid, hd, hg0, hg1, hg2, hsm, hz => by
    have hn := hG.2.1
    have hfr := fre_lt hG
    have hlv := r_level hG (σ := PS σ g) (PS_MG hM)
    have hwi := fre_iff hG (i := i) (by omega)
    have htop := topG_ge hG (i := i) (by omega)
    have hwe : gw G i = topG G := by omega
    have hw3 := topG_le hG
    have sU : SB G 999 u := fun j hj _ => by
      by_cases hji : j < i
      · have := hsm j hji; omega
      · rw [hz j (by omega)]; omega
    obtain ⟨g', e1, w1, k1⟩ := p_conjugates (σ := σ) (f := g) hM hG h0 (s := 0) (r := 2) (t := 3) (by omega) (by omega) (by omega) (by omega) (by omega) (B := 999) (by omega) (by omega) (by rw [hg0]; exact sA) (by rw [hg2]; exact sU)
    rw [hg0, hg2] at w1
    have e1' : f_X11_conjugates (PS σ g) 0 2 3 = some (PS σ g') := e1
    have e2 : f_X11_areSame (PS σ g') 3 1 = some (areS G (g' 3) (g' 1)) := p_areSame (s := 3) (r := 1) hM hG (by omega) (by omega)
    rw [w1, k1 1 (by omega), hg1] at e2
    refine ⟨areS G (mul G (mul G (inv G u) A) u) Y, g', ?_, by rw [k1 0 (by omega), hg0], by rw [k1 1 (by omega), hg1], ?_⟩
    · show o_X11_seeks (f_X11_seeks fuel) (PS σ g) (i32 i) (i32 b) = _
      unfold o_X11_seeks
      rw [e_n (PS_MG hM), e_bs, if_neg (i_ne (by omega) (by omega) (by omega)), e_weight (PS_MG hM) (by omega), e_bs, hlv, e_bs, hwe, if_pos rfl, e_bs]
      show j_X11_seeks_20 (f_X11_seeks fuel) (PS σ g) = _
      unfold j_X11_seeks_20
      rw [e1', e_bs, e2, e_bs]
    · have hci := conj_iff hG hJ (u := u) sA sY
      have hg2' : g' 2 = u := by rw [k1 2 (by omega), hg2]
      have heq : ∀ v, BxI b (fre G) i u v → v = u := fun v hv => by
        funext p
        by_cases hp : p < i
        · exact hv.1 p hp
        · rw [hv.2.2 p (by omega), hz p (by omega)]
      cases hbt : areS G (mul G (mul G (inv G u) A) u) Y with
      | true =>
        refine Or.inl ⟨rfl, ?_, ?_, fun v hv hk ⟨j, hj, h1, h2⟩ => ?_⟩
        · rw [hg2']
          exact ⟨fun p hp => rfl, fun p h1 h2 => by omega, fun p hp => hz p (by omega)⟩
        · rw [hg2']; exact hci.mp hbt
        · rw [hg2', heq v hv] at h2
          omega
      | false =>
        refine Or.inr ⟨rfl, hg2', fun v hv hk => ?_⟩
        rw [heq v hv] at hk
        have := hci.mpr hk
        rw [hbt] at this
        cases this
  | d + 1, i, 0, g, u, _, hd, _, _, _, _, _ => absurd hd (Nat.not_lt_zero _)
  | d + 1, i, fuel + 1, g, u, hid, hd, hg0, hg1, hg2, hsm, hz => by
    have hn := hG.2.1
    have hfr := fre_lt hG
    have hlv := r_level hG (σ := PS σ g) (PS_MG hM)
    have hwi := (fre_iff hG (i := i) (by omega)).mpr (by omega)
    have hw3 := topG_le hG
    have hw1 := (hG.2.2.1 i (by omega)).1
    have hui := hz i (Nat.le_refl _)
    have hneg : -(i32 b) = -(i32 b) := rfl
    -- the loop over values: v from -b on
    have hval : ∀ t, t ≤ 2 * b + 1 → (i32 t - i32 b).toInt64 = oi ((t : Int) - b) ∧ (i32 b < i32 t - i32 b ↔ 2 * b < t) := by
      intro t ht
      rcases (show b = 1 ∨ b = 2 ∨ b = 3 by omega) with z | z | z
      · subst z
        have key : (List.range 4).all (fun t => decide ((i32 t - i32 1).toInt64 = oi ((t : Int) - (1 : Nat)) ∧ (i32 1 < i32 t - i32 1 ↔ 2 * 1 < t))) = true := by decide +kernel
        exact of_decide_eq_true (List.all_eq_true.mp key t (List.mem_range.mpr (by omega)))
      · subst z
        have key : (List.range 6).all (fun t => decide ((i32 t - i32 2).toInt64 = oi ((t : Int) - (2 : Nat)) ∧ (i32 2 < i32 t - i32 2 ↔ 2 * 2 < t))) = true := by decide +kernel
        exact of_decide_eq_true (List.all_eq_true.mp key t (List.mem_range.mpr (by omega)))
      · subst z
        have key : (List.range 8).all (fun t => decide ((i32 t - i32 3).toInt64 = oi ((t : Int) - (3 : Nat)) ∧ (i32 3 < i32 t - i32 3 ↔ 2 * 3 < t))) = true := by decide +kernel
        exact of_decide_eq_true (List.all_eq_true.mp key t (List.mem_range.mpr (by omega)))
    have hloop := loop_inv (body := fun (z10 : (Mem × Int32)) => l_X11_seeks_37 (f_X11_seeks fuel) (i32 i) (i32 b) z10.1 z10.2) (fun n z => ∃ t g1, t ≤ 2 * b + 1 ∧ n = 2 * b + 1 - t ∧ z = (PS σ g1, i32 t - i32 b) ∧ g1 0 = A ∧ g1 1 = Y ∧ (∃ y, g1 2 = uV u i y) ∧ ∀ v, BxI b (fre G) i u v → v i < (t : Int) - b → ¬ Kx G A Y v) (fun r => ∃ g1, g1 0 = A ∧ g1 1 = Y ∧ ((r = Sum.inl (PS σ g1) ∧ (∃ y, g1 2 = uV u i y) ∧ ∀ v, BxI b (fre G) i u v → ¬ Kx G A Y v) ∨ (r = Sum.inr (Sum.inr (true, PS σ g1)) ∧ BxI b (fre G) i u (g1 2) ∧ Kx G A Y (g1 2) ∧ ∀ v, BxI b (fre G) i u v → Kx G A Y v → ¬ Lxl (fre G) v (g1 2)))) ?_ (2 * b + 1) (PS σ g, -(i32 b)) ⟨0, g, by omega, rfl, by rw [show i32 0 - i32 b = -(i32 b) from by rw [← i32_0, Int32.zero_sub]], hg0, hg1, ⟨0, by
        rw [hg2]
        funext p
        by_cases hp : p = i
        · rw [hp, uV_self, hui]
        · rw [uV_ne hp]⟩, fun v hv h1 _ => by
        have := (hv.2.1 i (Nat.le_refl _) (by omega)).1
        omega⟩
    · obtain ⟨r, er, g1, a0, a1, hr⟩ := hloop
      have hstep : f_X11_seeks (fuel + 1) (PS σ g) (i32 i) (i32 b) = (((some r).bind (Sum.elim (fun (z7 : Mem) => j_X11_seeks_69 (f_X11_seeks fuel) (i32 i) z7) some) : Option (Unit ⊕ (Bool × Mem))).bind (Sum.elim (fun (z1 : Unit) => j_X11_seeks_20 (f_X11_seeks fuel) (PS σ g)) some) : Option (Bool × Mem)) := by
        show o_X11_seeks (f_X11_seeks fuel) (PS σ g) (i32 i) (i32 b) = _
        unfold o_X11_seeks
        rw [e_n (PS_MG hM), e_bs, if_neg (i_ne (by omega) (by omega) (by omega)), e_weight (PS_MG hM) (by omega), e_bs, hlv, e_bs, if_neg (i_ne (by omega) (by omega) (by omega)), e_bd, er]
      rcases hr with ⟨rfl, ⟨y, hy⟩, hno⟩ | ⟨rfl, h1, h2, h3⟩
      · have e5 : f_X11_puts (PS σ g1) 2 (i32 i) 0 = some (PS σ (uS g1 2 (uV (g1 2) i 0))) := p_puts (σ := σ) (f := g1) (s := 2) (x := 0) (by omega) (by omega)
        refine ⟨false, uS g1 2 (uV (g1 2) i 0), ?_, by rw [uS_ne (by omega), a0], by rw [uS_ne (by omega), a1], Or.inr ⟨rfl, ?_, hno⟩⟩
        · rw [hstep, e_bs]
          show (j_X11_seeks_69 (f_X11_seeks fuel) (i32 i) (PS σ g1) : Option (Unit ⊕ (Bool × Mem))).bind (Sum.elim (fun (z1 : Unit) => j_X11_seeks_20 (f_X11_seeks fuel) (PS σ g)) some) = _
          unfold j_X11_seeks_69
          rw [e5, e_bs]
          rfl
        · rw [uS_self, hy, uV_id hui]
      · refine ⟨true, g1, ?_, a0, a1, Or.inl ⟨rfl, h1, h2, h3⟩⟩
        rw [hstep, e_bs]
        rfl
    · rintro n z ⟨t, g1, ht, rfl, rfl, a0, a1, ⟨y, hy⟩, hno⟩
      obtain ⟨v1, v2⟩ := hval t ht
      by_cases htb : t = 2 * b + 1
      · right
        refine ⟨Sum.inl (PS σ g1), ?_, g1, a0, a1, Or.inl ⟨rfl, ⟨y, hy⟩, fun v hv => hno v hv ?_⟩⟩
        · show l_X11_seeks_37 (f_X11_seeks fuel) (i32 i) (i32 b) (PS σ g1) (i32 t - i32 b) = _
          unfold l_X11_seeks_37
          rw [if_pos (v2.mpr (by omega))]
        · have := (hv.2.1 i (Nat.le_refl _) (by omega)).2
          omega
      · have e5 : f_X11_puts (PS σ g1) 2 (i32 i) (oi ((t : Int) - b)) = some (PS σ (uS g1 2 (uV (g1 2) i ((t : Int) - b)))) := p_puts (σ := σ) (f := g1) (s := 2) (x := (t : Int) - b) (by omega) (by omega)
        have hu2 : (uS g1 2 (uV (g1 2) i ((t : Int) - b))) 2 = uV u i ((t : Int) - b) := by rw [uS_self, hy, uV_uV]
        have b0 : (uS g1 2 (uV (g1 2) i ((t : Int) - b))) 0 = A := by rw [uS_ne (by omega), a0]
        have b1 : (uS g1 2 (uV (g1 2) i ((t : Int) - b))) 1 = Y := by rw [uS_ne (by omega), a1]
        generalize uS g1 2 (uV (g1 2) i ((t : Int) - b)) = g2 at e5 hu2 b0 b1
        obtain ⟨r, g3, e6, c0, c1, hr⟩ := r_seeks hG hJ hM h0 hb sA sY d (i + 1) fuel g2 (uV u i ((t : Int) - b)) (by omega) (by omega) b0 b1 hu2 (fun p hp => by
          by_cases hpi : p = i
          · rw [hpi, uV_self]; omega
          · rw [uV_ne hpi]; exact hsm p (by omega)) (fun p hp => by rw [uV_ne (by omega)]; exact hz p (by omega))
        have hsplit : ∀ v, BxI b (fre G) i u v → v i = (t : Int) - b → BxI b (fre G) (i + 1) (uV u i ((t : Int) - b)) v := fun v hv hvi => ⟨fun p hp => by
          by_cases hpi : p = i
          · rw [hpi, uV_self, hvi]
          · rw [uV_ne hpi]; exact hv.1 p (by omega), fun p h1 h2 => hv.2.1 p (by omega) h2, hv.2.2⟩
        have hbody : l_X11_seeks_37 (f_X11_seeks fuel) (i32 i) (i32 b) (PS σ g1) (i32 t - i32 b) = if r = true then some (Sum.inr (Sum.inr (Sum.inr (true, PS σ g3)))) else some (Sum.inl (PS σ g3, i32 t - i32 b + 1)) := by
          unfold l_X11_seeks_37
          rw [if_neg (fun q => by have := v2.mp q; omega), v1, e5, e_bs, i32_1, i32_add, e6, e_bq]
        rcases hr with ⟨rfl, h1, h2, h3⟩ | ⟨rfl, h1, h2⟩
        · right
          have hgi : g3 2 i = (t : Int) - b := by rw [h1.1 i (by omega), uV_self]
          refine ⟨_, ?_, g3, c0, c1, Or.inr ⟨rfl, ⟨fun p hp => ?_, fun p h1' h2' => ?_, h1.2.2⟩, h2, fun v hv hk hl => ?_⟩⟩
          · show l_X11_seeks_37 (f_X11_seeks fuel) (i32 i) (i32 b) (PS σ g1) (i32 t - i32 b) = _
            rw [hbody, if_pos rfl]
          · rw [h1.1 p (by omega), uV_ne (by omega)]
          · by_cases hpi : p = i
            · rw [hpi, hgi]; omega
            · exact h1.2.1 p (by omega) h2'
          · by_cases hvi : v i < (t : Int) - b
            · exact hno v hv hvi hk
            · obtain ⟨j, hj, l1, l2⟩ := hl
              have hji : ¬ j < i := fun q => by
                rw [hv.1 j q, h1.1 j (by omega), uV_ne (by omega)] at l2
                omega
              by_cases hje : j = i
              · subst hje
                omega
              · have hvi2 : v i = (t : Int) - b := by rw [l1 i (by omega), hgi]
                exact h3 v (hsplit v hv hvi2) hk ⟨j, hj, l1, l2⟩
        · left
          refine ⟨(PS σ g3, i32 (t + 1) - i32 b), 2 * b + 1 - (t + 1), by omega, ?_, t + 1, g3, by omega, rfl, rfl, c0, c1, ⟨(t : Int) - b, h1⟩, fun v hv hlt hk => ?_⟩
          · show l_X11_seeks_37 (f_X11_seeks fuel) (i32 i) (i32 b) (PS σ g1) (i32 t - i32 b) = _
            rw [hbody, if_neg (by decide), show i32 (t + 1) - i32 b = i32 t - i32 b + 1 from by
              rw [← i32_add, ← i32_1, Int32.sub_eq_add_neg, Int32.sub_eq_add_neg, Int32.add_assoc, Int32.add_comm 1, Int32.add_assoc]]
          · by_cases hvi : v i < (t : Int) - b
            · exact hno v hv hvi hk
            · exact h2 v (hsplit v hv (by omega)) hk
theorem FSk.sc {τ : Mem} (h : FSk 176 σ τ) : SC σ τ := ⟨fun x hx => h.1 x (by omega), fun c _ => by rw [h.1 40 (by omega)], fun c _ => by rw [h.1 144 (by omega)], fun x hx => h.2 x (by omega) (by omega) (by omega) (by omega)⟩
theorem Fst.BxI {A Y u : Nat → Int} {b : Int} {f : Nat} (h : BxI b f 0 O u) (k : Kx G A Y u) (m : ∀ v, BxI b f 0 O v → Kx G A Y v → ¬ Lxl f v u) : Fst G A Y b f u := ⟨⟨fun i hi => h.2.1 i (Nat.zero_le _) hi, h.2.2⟩, k, fun w hw hk => m w ⟨fun p hp => absurd hp (Nat.not_lt_zero _), fun p _ hp => hw.1 p hp, hw.2⟩ hk⟩
theorem ok_10 : Ok_10 II := by
  intro c σ x y z w hc ⟨S, ok, h, hr⟩
  have hG : GOK (aG S) := ok.1.1
  have hn : gn (aG S) ≤ 6 := hG.2.1
  obtain ⟨b, hb, hB⟩ := c_cons h
  have em := fun τ : Mem => r_in (σ := τ) (x := w) (l := 1) (u := 3) ⟨by omega, by omega⟩ ⟨by omega, by omega⟩
  unfold f_X10_seek
  rw [c_areUsable hb, e_bs]
  by_cases hall : (isReg x = true ∧ isReg y = true ∧ isReg z = true ∧ b = true) ∧ (1 ≤ w.toInt ∧ w.toInt ≤ 3)
  · obtain ⟨⟨hx, hy, hz, hbt⟩, hw⟩ := hall
    have hcons := hB.mp hbt
    have hJ := Cons.jac hG hcons
    have hw1 := i32_of (x := w) (by omega)
    have hwb : 1 ≤ w.toInt.toNat ∧ w.toInt.toNat ≤ 3 := by omega
    rw [hx, hy, hbt, Bool.and_self, Bool.and_self, if_pos rfl, c_isReg, e_bs, hz, if_pos rfl, if_neg (fun q => by have := (lt32 (k := 1) (by omega)).mp q; omega), if_pos (show w ≤ 3 from (le32 (k := 3) (by omega)).mpr (by omega))]
    obtain ⟨r, hr10, rfl⟩ := isReg_idx hx
    obtain ⟨p, hp10, rfl⟩ := isReg_idx hy
    obtain ⟨q, hq10, rfl⟩ := isReg_idx hz
    have sp := reg_sb ok p
    have sq := reg_sb ok q
    obtain ⟨rc, σ1, e1, f1, hrc⟩ := c_conjugator (σ := σ) (out := 176) (a := 6 + p) (y := 6 + q) (b := w.toInt.toNat) hG (c_ct h hcons) h.law.1 ln_176 (ln_reg hp10) (ln_reg hq10) (c_reg h hp10) (c_reg h hq10) (by omega) (by omega) (sp.w hG (by omega)) (sq.w hG (by omega)) hwb
    rw [← hw1] at e1
    have h1 := h.sc f1.sc
    rw [e_gR ln_5 hp10 (by omega), rf_5 hp10, e_gR ln_5 hq10 (by omega), rf_5 hq10, e1, e_bq]
    have hmem : ∀ σ2, HI σ σ2 → ∃ τ b2 g, f_X11_can σ2 (i32 r) (i32 p) (i32 q) = some (true, τ) ∧ LO σ2 τ ∧ MG τ (aG S) ∧ (∀ g, IRef S (PS τ g)) ∧ (∀ g, LO τ (PS τ g)) ∧ ((f_X11_laysRegister τ 0 (i32 p)).bind (fun (σ4 : Mem) => (f_X11_laysRegister σ4 1 (i32 q)).bind (fun (σ5 : Mem) => (f_X11_ones σ5 2).bind (fun (σ6 : Mem) => f_X11_seeks 8 σ6 0 w)))) = some (b2, PS τ g) ∧ ((b2 = true ∧ Fst (aG S) (aR S p) (aR S q) w.toInt.toNat (fre (aG S)) (g 2)) ∨ (b2 = false ∧ ∀ v, Bx w.toInt.toNat (fre (aG S)) v → ¬ Kx (aG S) (aR S p) (aR S q) v)) := by
      intro σ2 hi2
      obtain ⟨b3, τ, e3, r3, l3, hc3, _⟩ := r_can (hr.hi hi2) ok (x := i32 r) (y := i32 p) (z := i32 q)
      have : b3 = true := hc3.mpr hcons
      subst this
      rw [hx, hy, hz, Bool.and_self, Bool.and_self, Bool.and_self] at e3
      obtain ⟨⟨f, hf⟩, hI, hL, hM, h0, hRB⟩ := at_slots r3
      have a1 : f_X11_laysRegister τ 0 (i32 p) = some (PS τ (uS f 0 (aR S p))) := by
        have := p_lays (σ := τ) (f := f) hRB ok (s := 0) (by omega) hp10
        rw [hf] at this
        exact this
      have a2 : f_X11_laysRegister (PS τ (uS f 0 (aR S p))) 1 (i32 q) = some (PS τ (uS (uS f 0 (aR S p)) 1 (aR S q))) := p_lays (σ := τ) (f := uS f 0 (aR S p)) hRB ok (s := 1) (by omega) hq10
      have a3 : f_X11_ones (PS τ (uS (uS f 0 (aR S p)) 1 (aR S q))) 2 = some (PS τ (uS (uS (uS f 0 (aR S p)) 1 (aR S q)) 2 (fun _ => 0))) := p_ones (s := 2) (by omega)
      have b0 : (uS (uS (uS f 0 (aR S p)) 1 (aR S q)) 2 (fun _ => 0)) 0 = aR S p := by rw [uS_ne (by omega), uS_ne (by omega), uS_self]
      have b1 : (uS (uS (uS f 0 (aR S p)) 1 (aR S q)) 2 (fun _ => 0)) 1 = aR S q := by rw [uS_ne (by omega), uS_self]
      have b2 : (uS (uS (uS f 0 (aR S p)) 1 (aR S q)) 2 (fun _ => 0)) 2 = O := by rw [uS_self]; rfl
      generalize uS (uS (uS f 0 (aR S p)) 1 (aR S q)) 2 (fun _ => 0) = g1 at a3 b0 b1 b2
      have hfr := fre_lt hG
      obtain ⟨rr, g2, e4, c0, c1, hrr⟩ := r_seeks (σ := τ) (b := w.toInt.toNat) hG hJ hM h0 hwb sp sq (fre (aG S)) 0 8 g1 O (by omega) (by omega) b0 b1 b2 (fun p hp => absurd hp (Nat.not_lt_zero _)) (fun _ _ => rfl)
      rw [← hw1] at e4
      have e4' : f_X11_seeks 8 (PS τ g1) 0 w = some (rr, PS τ g2) := e4
      refine ⟨τ, rr, g2, e3, l3, hM, hI, hL, by rw [a1, e_bs, a2, e_bs, a3, e_bs, e4'], ?_⟩
      rcases hrr with ⟨rfl, h1, h2, h3⟩ | ⟨rfl, _, h2⟩
      · exact Or.inl ⟨rfl, Fst.BxI h1 h2 h3⟩
      · exact Or.inr ⟨rfl, fun v hv => h2 v ⟨fun p hp => absurd hp (Nat.not_lt_zero _), fun p _ hp => hv.1 p hp, hv.2⟩⟩
    rcases hrc with ⟨rfl, u, hu, r1⟩ | ⟨rfl, hno⟩
    · have hus : ∀ i, -999 ≤ u i ∧ u i ≤ 999 := fun i => by
        by_cases hi : i < fre (aG S)
        · have := hu.1.1 i hi; omega
        · rw [hu.1.2 i (by omega)]; omega
      have hel : isEl (aG S) u = true := isEl_small hus
      have hfr := fre_lt hG
      have zu : Z6 (aG S) u := fun k h1 _ => hu.1.2 k (by omega)
      obtain ⟨σ2, e2, i2, hi2⟩ := c_keep h1 ok r1 zu hr10 hel
      obtain ⟨τ, b2, g, e3, l3, hM, hI, hL, e4, hb2⟩ := hmem σ2 (f1.sc.hi.trans hi2)
      rcases hb2 with ⟨rfl, hg⟩ | ⟨_, hno⟩
      · have hgu : g 2 = u := hg.uniq hu
        obtain ⟨υ, e5, r5, l5⟩ := r_gives (f := g) (hI g) ok hr10 (s := 2) (by omega)
        rw [hgu, hel] at e5
        rw [hgu, hel, if_pos rfl] at r5
        rw [if_pos rfl, e2, e_bq, if_pos rfl, e_bs]
        refine ⟨true, σ2, υ, rfl, ?_, nS S r u, nS_ok ok hel, i2.lo ((l3.trans (hL _)).trans l5), r5⟩
        unfold f_X11_seek
        rw [e3, e_bq, if_pos rfl, show (1 : Int64) = oi 1 from rfl, show (3 : Int64) = oi 3 from rfl, em, e_bs, decide_eq_true hw, if_pos rfl]
        obtain ⟨s4, q4, e4⟩ := Option.bind_eq_some_iff.mp e4
        obtain ⟨s5, q5, e4⟩ := Option.bind_eq_some_iff.mp e4
        obtain ⟨s6, q6, e4⟩ := Option.bind_eq_some_iff.mp e4
        have e5' : f_X11_gives (PS τ g) (i32 r) 2 = some (true, υ) := e5
        rw [q4, e_bs, q5, e_bs, q6, e_bs, e4, e_bq, if_pos rfl, e5', e_bq, if_pos rfl, e_bs]
        rfl
      · exact absurd hu.2.1 (hno u hu.1)
    · rw [if_neg (by decide), e_bs]
      obtain ⟨τ, b2, g, e3, l3, hM, hI, hL, e4, hb2⟩ := hmem σ1 f1.sc.hi
      rcases hb2 with ⟨_, hg⟩ | ⟨rfl, _⟩
      · exact absurd hg.2.1 (hno _ hg.1)
      · refine ⟨false, σ1, PS τ g, rfl, ?_, fin_q ok h1 (hI g) (l3.trans (hL _))⟩
        unfold f_X11_seek
        rw [e3, e_bq, if_pos rfl, show (1 : Int64) = oi 1 from rfl, show (3 : Int64) = oi 3 from rfl, em, e_bs, decide_eq_true hw, if_pos rfl]
        obtain ⟨s4, q4, e4⟩ := Option.bind_eq_some_iff.mp e4
        obtain ⟨s5, q5, e4⟩ := Option.bind_eq_some_iff.mp e4
        obtain ⟨s6, q6, e4⟩ := Option.bind_eq_some_iff.mp e4
        rw [q4, e_bs, q5, e_bs, q6, e_bs, e4, e_bq, if_neg (by decide), e_bs]
        rfl
  · obtain ⟨b3, τ, e3, r3, l3, hc3, _⟩ := r_can hr ok (x := x) (y := y) (z := z)
    have hbb : b3 = b := bool_iff hc3 hB
    subst hbb
    refine ⟨false, σ, τ, ?_, ?_, fin_q ok h r3 l3⟩
    · by_cases h3 : isReg x = true ∧ isReg y = true ∧ b3 = true
      · rw [h3.1, h3.2.1, h3.2.2, Bool.and_self, Bool.and_self, if_pos rfl, c_isReg, e_bs]
        cases hz : isReg z with
        | false => rw [if_neg (by decide)]
        | true =>
          rw [if_pos rfl]
          by_cases hw1 : w < 1
          · rw [if_pos hw1]
          · have hw1' : ¬ w.toInt < 1 := fun q => hw1 ((lt32 (k := 1) (by omega)).mpr q)
            rw [if_neg hw1, if_neg (show ¬ w ≤ 3 from fun q => hall ⟨⟨h3.1, h3.2.1, hz, h3.2.2⟩, by omega, (le32 (k := 3) (by omega)).mp q⟩)]
      · rw [and3 h3, if_neg (by decide)]
    · unfold f_X11_seek
      rw [e3, e_bq]
      by_cases h4 : isReg x = true ∧ isReg y = true ∧ isReg z = true ∧ b3 = true
      · rw [h4.1, h4.2.1, h4.2.2.1, h4.2.2.2, Bool.and_self, Bool.and_self, Bool.and_self, if_pos rfl, show (1 : Int64) = oi 1 from rfl, show (3 : Int64) = oi 3 from rfl, em, e_bs, decide_eq_false (fun q => hall ⟨h4, q⟩), if_neg (by decide)]
      · rw [and4 h4, if_neg (by decide)]
end SEK
