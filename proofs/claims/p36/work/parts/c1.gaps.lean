/-! gaps: found, and what they are at a row -/
section GP
variable {σ : Mem} {G : GD}
def tabD (tab : Nat → Int64) (d : Nat → Nat) (x : Nat → Int) : Prop := tab 0 = oi 1 ∧ ∀ v, v < 12 → d v ≠ 0 → tab (4 * v + d v) = oi (bn (d v) (x v))
theorem TbU.tabD {τ : Mem} {t : Nat} {x : Nat → Int} {P : Nat → Prop} {d : Nat → Nat} (h : TbU G τ t x P) (hd : Dok G d) (h0 : P 0) (hP : ∀ v, v < 12 → d v ≠ 0 → P v) : tabD (τ.2 t) d x := by
  refine ⟨(h 0 (by omega) h0).1, fun v hv hne => ?_⟩
  have h1 := h v hv (hP v hv hne)
  have h2 := hd.1 v hv
  rcases (show d v = 1 ∨ d v = 2 by omega) with z | z
  · rw [z]; exact h1.2.1
  · have h3 := h1.2.2 (h2.2 z)
    rw [z]; exact h3
theorem c_factors {t : Nat} {d : Nat → Nat} {x : Nat → Int} (ht : ln t = 64) (hd : Dok G d) (hT : tabD (σ.2 t) d x) : f_X9_factors σ (i32 (pl d 12)) t = some (oi (pr d x)) := by
  have h3 : ∀ u, u < 12 → d u ≤ 3 := fun u hu => by have := (hd.1 u hu).1; omega
  have hpl := pl_lt (d := d) 12 (Nat.le_refl _) h3
  have hpl2 : pl d 12 < 64 ^ 3 := Nat.lt_of_lt_of_le hpl (Nat.pow_le_pow_right (by omega) hd.2)
  have hT3 := T3_pl (tab := σ.2 t) (d := d) (x := x) hT.1 h3 hT.2 12 (Nat.le_refl _) hd.2
  unfold f_X9_factors
  rw [i_f0, e_gL ht (by omega) (by omega), i_f1 (by omega), e_gL ht (by omega) (by omega), i_f2 (by omega), e_gL ht (by omega) (by omega)]
  unfold T3 at hT3
  rw [hT3]
  rfl
theorem c_valueN {a t : Nat} {N : List (Nat × Int)} {x : Nat → Int} (sp : SP a) (ht : ln t = 64) (hS : GS σ a N) (hN : NOK G N) (hT : ∀ p, p ∈ N → tabD (σ.2 t) (dk p.1) x) : f_X9_value σ a t = some (oi (nsm (fun κ => pr (dk κ) x) N)) := by
  have hl := hN.len
  obtain ⟨r1, r2, r3, l1, l2, l3⟩ := sp
  unfold f_X9_value
  refine loop_at (fun q => (oi (nsm (fun κ => pr (dk κ) x) (N.take q)), i32 q)) 0 N.length (by rw [List.take_zero]; rfl) (Nat.zero_le _) (fun q _ hq => ?_) ?_
  · show l_X9_value_5 σ a t _ (i32 q) = _
    unfold l_X9_value_5
    have hg := List.getElem?_eq_getElem hq
    have hmem := List.getElem_mem hq
    rw [List.take_succ_eq_append_getElem hq, nsm_app]
    generalize N[q] = p at hg hmem
    have he := hS.2 q p hg
    have hd := (hN.1 p hmem).1
    have h3 : ∀ u, u < 12 → dk p.1 u ≤ 3 := fun u hu => by have := (hd.1 u hu).1; omega
    have hpl := pl_lt (d := dk p.1) 12 (Nat.le_refl _) h3
    have hpl2 : pl (dk p.1) 12 < 64 ^ 3 := Nat.lt_of_lt_of_le hpl (Nat.pow_le_pow_right (by omega) hd.2)
    have hT3 := T3_pl (tab := σ.2 t) (d := dk p.1) (x := x) (hT p hmem).1 h3 (hT p hmem).2 12 (Nat.le_refl _) hd.2
    rw [e_gF, hS.1, if_neg (i_nle hq (by omega)), r3, e_gI l3 (by omega) (by omega), he.2.2, r2, e_gL l2 (by omega) (by omega), he.2.1, i_f0, e_gL ht (by omega) (by omega), i_f1 (by omega), e_gL ht (by omega) (by omega), i_f2 (by omega), e_gL ht (by omega) (by omega), e_bd, i32_1, i32_add]
    have e9 : oi p.2 * σ.2 t (pl (dk p.1) 12 % 64) * σ.2 t (pl (dk p.1) 12 / 64 % 64) * σ.2 t (pl (dk p.1) 12 / 4096 % 64) = oi (p.2 * pr (dk p.1) x) := by
      unfold pr
      rw [← oi_mul, ← hT3]
      unfold T3
      simp only [Int64.mul_assoc]
    rw [e9, oi_add]
    congr 4
    show _ = _ + (p.2 * pr (dk p.1) x + 0)
    rw [Int.add_zero]
  · show l_X9_value_5 σ a t _ (i32 N.length) = _
    unfold l_X9_value_5
    rw [e_gF, hS.1, if_pos (i_le (Nat.le_refl _) (by omega)), List.take_length]
theorem and_hi {x : Nat} (hx : x < 4 ^ 12) : i32 x &&& 16773120 = i32 (x / 4096 * 4096) := by
  have h : i32 x &&& i32 (4095 * 2 ^ 12) = i32 (x &&& 4095 * 2 ^ 12) := i_and x (4095 * 2 ^ 12)
  have h2 : x &&& 4095 * 2 ^ 12 = x / 2 ^ 12 * 2 ^ 12 := by
    apply Nat.eq_of_testBit_eq
    intro i
    rw [Nat.testBit_and, Nat.testBit_mul_two_pow, Nat.testBit_mul_two_pow, show 4095 = 2 ^ 12 - 1 from rfl, Nat.testBit_two_pow_sub_one, Nat.testBit_div_two_pow]
    by_cases h1 : 12 ≤ i
    · rw [decide_eq_true h1, Bool.true_and, Bool.true_and, Nat.sub_add_cancel h1]
      by_cases h3 : i - 12 < 12
      · rw [decide_eq_true h3, Bool.and_true]
      · rw [decide_eq_false h3, Bool.and_false]
        refine (Nat.testBit_lt_two_pow (Nat.lt_of_lt_of_le hx ?_)).symm
        rw [show 4 ^ 12 = 2 ^ 24 from by decide]
        exact Nat.pow_le_pow_right (by omega) (by omega)
    · rw [decide_eq_false h1, Bool.false_and, Bool.and_false, Bool.false_and]
  rw [h2] at h
  exact h
theorem ky_hL {d : Nat → Nat} (hd : ∀ v, v < 12 → d v ≤ 3) : ky (hL d) 12 = ky d 12 / 4096 * 4096 := by
  have e1 := ky12 (d := d)
  have e2 := ky12 (d := hL d)
  have e3 : ky (hL d) 6 = ky d 6 := ky_congr 6 (fun v hv => if_pos hv)
  have z : ∀ v, 6 ≤ v → hL d v = 0 := fun v hv => if_neg (by omega)
  rw [z 6 (by omega), z 7 (by omega), z 8 (by omega), z 9 (by omega), z 10 (by omega), z 11 (by omega), e3] at e2
  have a1 := hd 6 (by omega)
  have a2 := hd 7 (by omega)
  have a3 := hd 8 (by omega)
  have a4 := hd 9 (by omega)
  have a5 := hd 10 (by omega)
  have a6 := hd 11 (by omega)
  omega
theorem ky_hR {d : Nat → Nat} (hd : ∀ v, v < 12 → d v ≤ 3) : ky (hR d) 12 = ky d 12 % 4096 ∧ ky (hS d) 12 = ky (hR d) 12 * 4096 := by
  have e1 := ky12 (d := d)
  have e2 := ky12 (d := hR d)
  have e3 := ky12 (d := hS d)
  have e4 := ky6 (d := hR d)
  have e5 := ky6 (d := hS d)
  have z : ∀ v, v < 6 → hR d v = 0 := fun v hv => if_pos hv
  have z2 : ∀ v, 6 ≤ v → hR d v = d v := fun v hv => if_neg (by omega)
  have s : ∀ v, v < 6 → hS d v = d (v + 6) := fun v hv => if_pos hv
  have s2 : ∀ v, 6 ≤ v → hS d v = 0 := fun v hv => if_neg (by omega)
  rw [z 0 (by omega), z 1 (by omega), z 2 (by omega), z 3 (by omega), z 4 (by omega), z 5 (by omega)] at e4
  rw [z2 6 (by omega), z2 7 (by omega), z2 8 (by omega), z2 9 (by omega), z2 10 (by omega), z2 11 (by omega)] at e2
  rw [s2 6 (by omega), s2 7 (by omega), s2 8 (by omega), s2 9 (by omega), s2 10 (by omega), s2 11 (by omega)] at e3
  rw [s 0 (by omega), s 1 (by omega), s 2 (by omega), s 3 (by omega), s 4 (by omega), s 5 (by omega)] at e5
  have e5' : ky (hS d) 6 = 1024 * d 6 + 256 * d 7 + 64 * d 8 + 16 * d 9 + 4 * d 10 + d 11 := e5
  clear e5
  have a1 := hd 6 (by omega)
  have a2 := hd 7 (by omega)
  have a3 := hd 8 (by omega)
  have a4 := hd 9 (by omega)
  have a5 := hd 10 (by omega)
  have a6 := hd 11 (by omega)
  constructor
  · omega
  · show ky (hS d) 12 = ky (hR d) 12 * 4096
    omega
theorem sum_wt : ∀ (W e : List Nat), (∀ w, w ∈ W → 1 ≤ w) → e.length = W.length → fo (· + ·) 0 (fun p => e.getD p 0) e.length ≤ pwt W e := by
  intro W
  induction W with
  | nil =>
    intro e _ hl
    have : e = [] := List.length_eq_zero_iff.mp hl
    subst this; exact Nat.le_refl 0
  | cons w W ih =>
    intro e hw hl
    cases e with
    | nil => simp at hl
    | cons d e =>
      have h1 := ih e (fun x hx => hw x (List.mem_cons_of_mem _ hx)) (by simpa using hl)
      have h2 := hw w (List.mem_cons_self ..)
      rw [List.length_cons, fo_front (fun a b c => Nat.add_assoc a b c) Nat.add_zero Nat.zero_add]
      show d + fo (· + ·) 0 (fun i => (d :: e).getD (i + 1) 0) e.length ≤ d * w + pwt W e
      have h3 : (fun i => (d :: e).getD (i + 1) 0) = fun i => e.getD i 0 := funext (fun i => by rw [List.getD_cons_succ])
      have h4 : d ≤ d * w := Nat.le_mul_of_pos_right d h2
      rw [h3]
      omega
theorem Tk_dok (hG : GOK G) {k : Nat} (hk : k < gn G) {e : List Nat} (he : e ∈ Tk G k) : Dok G (dg G e) ∧ dsum (dg G e) 12 ≤ 3 ∧ e.length = 2 * gn G := by
  have hw := (hG.2.2.1 k hk).2
  obtain ⟨hp, hok⟩ := List.mem_filter.mp he
  have hne : cf G k e ≠ 0 := fun z => by
    unfold okT at hok
    rw [z] at hok
    exact absurd hok (by decide)
  have hg := (cf_ok hG hk).1 e hne
  have h1 := (pts_mem _ _ _ (wl_pos hG)).mp hp
  refine ⟨⟨fun v hv => ⟨dg_le (G := G) hg.2.1 v, fun h2 => ?_⟩, Nat.le_trans (nzc_le hG hp) hw⟩, ?_, by rw [h1.1, wl_len]⟩
  · have h3 := dg_good hg hv (by omega)
    have h5 := dg_wt hG hp hv
    rw [h2] at h5
    have h6 := (hG.2.2.1 _ h3.2).1
    omega
  · have h2 := sum_wt (wl G) e (wl_pos hG) h1.1
    unfold dsum
    rw [fo12 hG (fun a b c => Nat.add_assoc a b c) Nat.add_zero (fun v hv h => dg_out hv h)]
    rw [h1.1, wl_len] at h2
    have e1 : fo (· + ·) 0 (fun p => dg G e (vp G p)) (2 * gn G) = fo (· + ·) 0 (fun p => e.getD p 0) (2 * gn G) := fo_congr _ (fun p hp => dg_vp hG hp)
    rw [e1]
    exact Nat.le_trans h2 (Nat.le_trans h1.2 hw)
theorem dsum_hL {d : Nat → Nat} : dsum (hL d) 12 ≤ dsum d 12 := fo_le 12 (fun v _ => by unfold hL; split <;> omega)
theorem dsum_hS {d : Nat → Nat} : dsum (hS d) 12 ≤ dsum d 12 := hS_sum (fun x => x) d rfl
/-- what a term adds to a gap -/
noncomputable def ctr (G : GD) (k : Nat) (x : Nat → Int) (g : Nat → Int) (e : List Nat) : Int := cf G k e * pr (hL (dg G e)) x * g (ky (hS (dg G e)) 12) + -(cf G k e) * pr (hR (dg G e)) x * g (ky (hL (dg G e)) 12)
theorem c_findGap (hG : GOK G) {k : Nat} (hk : k < 6) {T : List (List Nat)} {x : Nat → Int} (hT : CT G σ k T) (hTl : T.length ≤ 455) (hTm : ∀ e, e ∈ T → Dok G (dg G e) ∧ dsum (dg G e) 12 ≤ 3) (hB : Tb G σ 100 x) (h0 : σ.1 (104 + 4 * k) 0 = 0) : ∃ τ N, f_X7_findGap σ (48 + 4 * k) (104 + 4 * k) = some τ ∧ FSa (104 + 4 * k) σ τ ∧ GS τ (104 + 4 * k) N ∧ NOK G N ∧ ∀ g, oi (nsm g N) = oi (lsm (ctr G k x g) T) := by
  obtain ⟨r1, r2, r3, l1, l2, l3⟩ := rfk hk
  have sp := (SP_gap hk).1
  unfold f_X7_findGap
  have hloop := loop_inv (body := fun (z2 : (Mem × Int32)) => l_X7_findGap_2 (48 + 4 * k) (104 + 4 * k) z2.1 z2.2) (fun n z => ∃ q τ N, q ≤ T.length ∧ n = T.length - q ∧ z = (τ, i32 q) ∧ FSa (104 + 4 * k) σ τ ∧ GS τ (104 + 4 * k) N ∧ NOK G N ∧ ∀ g, oi (nsm g N) = oi (lsm (ctr G k x g) (T.take q))) (fun τ => ∃ N, FSa (104 + 4 * k) σ τ ∧ GS τ (104 + 4 * k) N ∧ NOK G N ∧ ∀ g, oi (nsm g N) = oi (lsm (ctr G k x g) T)) ?_ T.length (σ, 0) ⟨0, σ, [], by omega, rfl, rfl, FSa.refl, ⟨h0, fun t p hp => by simp at hp⟩, ⟨fun p hp => (by cases hp), List.nodup_nil⟩, fun g => by rw [List.take_zero]; rfl⟩
  · obtain ⟨τ, e, N, h1, h2, h3, h4⟩ := hloop
    exact ⟨τ, N, e, h1, h2, h3, h4⟩
  · rintro n z ⟨q, τ, N, hq, rfl, rfl, f, s, nk, hg⟩
    have hTt : CT G τ k T := hT.of (f.1 _ (by omega) (by omega) (by omega)) (f.1 _ (by omega) (by omega) (by omega)) (f.2 _ (by omega)) (f.1 _ (by omega) (by omega) (by omega))
    by_cases hqn : q = T.length
    · right
      subst hqn
      rw [List.take_length] at hg
      refine ⟨τ, ?_, N, f, s, nk, hg⟩
      show l_X7_findGap_2 (48 + 4 * k) (104 + 4 * k) τ (i32 T.length) = _
      unfold l_X7_findGap_2
      rw [e_gF, hTt.1, if_pos (i_le (Nat.le_refl _) (by omega))]
    · left
      have hq1 : q < T.length := by omega
      have hget := List.getElem?_eq_getElem hq1
      have hmem := List.getElem_mem hq1
      have htake : T.take (q + 1) = T.take q ++ [T[q]] := List.take_succ_eq_append_getElem hq1
      generalize T[q] = e at hget hmem htake
      obtain ⟨hd, hs3⟩ := hTm e hmem
      have he := hTt.2 q e hget
      have h3 : ∀ v, v < 12 → dg G e v ≤ 3 := fun v hv => by have := (hd.1 v hv).1; omega
      have hky := ky_lt (d := dg G e) 12 h3
      have kL : i32 (ky (dg G e) 12) &&& 16773120 = i32 (ky (hL (dg G e)) 12) := by rw [and_hi hky, ky_hL h3]
      have kR : i32 (ky (dg G e) 12) &&& 4095 = i32 (ky (hR (dg G e)) 12) := by
        rw [(ky_hR h3).1]; exact i_andmask _ 12
      have kS : i32 (ky (hR (dg G e)) 12) <<< ((12 : Int32) &&& 31) = i32 (ky (hS (dg G e)) 12) := by
        rw [(ky_hR h3).2]
        exact pk_shlN (n := ky (hR (dg G e)) 12) (12 &&& 31) 12 (by decide) (by rw [(ky_hR h3).1]; omega)
      have pL : ∀ υ : Mem, f_X9_placesOf υ (i32 (ky (hL (dg G e)) 12)) = some (i32 (pl (hL (dg G e)) 12)) := fun υ => c_placesOf (fun u hu => by have := (hd.L.1 u hu).1; omega) hd.L.2
      have pR : ∀ υ : Mem, f_X9_placesOf υ (i32 (ky (hR (dg G e)) 12)) = some (i32 (pl (hR (dg G e)) 12)) := fun υ => c_placesOf (fun u hu => by have := (hd.R.1 u hu).1; omega) hd.R.2
      have hB1 : Tb G τ 100 x := fun v hv => by rw [f.2 100 (by omega)]; exact hB v hv
      have fL := c_factors (σ := τ) (t := 100) (x := x) ln_100 hd.L (TbU.tabD (G := G) (P := fun _ => True) (fun v hv _ => hB1 v hv) hd.L trivial (fun _ _ _ => trivial))
      have okS : KOK G (ky (hS (dg G e)) 12) := KOK_of hd.S (fun v hv => if_neg (by omega)) (Nat.le_trans dsum_hS hs3)
      have okL : KOK G (ky (hL (dg G e)) 12) := KOK_of hd.L (fun v hv => if_neg (by omega)) (Nat.le_trans dsum_hL hs3)
      obtain ⟨τ1, N1, e1, f1, s1, n1, g1⟩ := c_merge (σ := τ) (z := cf G k e * pr (hL (dg G e)) x) sp s nk okS
      have hB2 : Tb G τ1 100 x := fun v hv => by rw [f1.2 100 (by omega)]; exact hB1 v hv
      have fR := c_factors (σ := τ1) (t := 100) (x := x) ln_100 hd.R (TbU.tabD (G := G) (P := fun _ => True) (fun v hv _ => hB2 v hv) hd.R trivial (fun _ _ _ => trivial))
      obtain ⟨τ2, N2, e2, f2, s2, n2, g2⟩ := c_merge (σ := τ1) (z := -(cf G k e) * pr (hR (dg G e)) x) sp s1 n1 okL
      refine ⟨(τ2, i32 (q + 1)), T.length - (q + 1), by omega, ?_, q + 1, τ2, N2, by omega, rfl, rfl, f.trans (f1.trans f2), s2, n2, fun g => ?_⟩
      · show l_X7_findGap_2 (48 + 4 * k) (104 + 4 * k) τ (i32 q) = _
        unfold l_X7_findGap_2
        have num1 : τ1.2 (50 + 4 * k) q = oi (cf G k e) := by rw [f1.2 _ (by omega)]; exact he.2.1
        rw [e_gF, hTt.1, if_neg (i_nle hq1 (by omega)), r1, e_gI l1 (by omega) (by omega), he.1, e_bd, kL, e_gI l1 (by omega) (by omega), he.1, e_bd, kR, r2, e_gL l2 (by omega) (by omega), he.2.1, pL, e_bs, fL, e_bs, kS, oi_mul, e1, e_bs, e_gL l2 (by omega) (by omega), num1, pR, e_bs, fR, e_bs, oi_neg, oi_mul, e2, e_bs, i32_1, i32_add]
      · rw [htake, lsm_app, g2, ← oi_add, g1, ← oi_add, hg]
        show _ = oi (lsm (ctr G k x g) (T.take q) + (ctr G k x g e + 0))
        rw [oi_add, oi_add]
        congr 1
        unfold ctr
        omega
theorem tk_mul (hG : GOK G) {k : Nat} (hk : k < gn G) (x : Nat → Int) : oi (lsm (fun e => cf G k e * Bn e (xl G x)) (Tk G k)) = oi (mul G x (fun i => x (6 + i)) k) := by
  have hn := hG.2.1
  unfold Tk
  rw [lsm_filter, ← psum_lsm, ← (cf_ok hG hk).2 (xl G x) (by rw [xl_len, wl_len])]
  unfold Fk
  congr 1
  refine mul_congr (fun i hi => ?_) (fun i hi => ?_) hk
  · rw [xl_get (by omega)]; unfold vp; rw [if_pos hi]
  · rw [xl_get (by omega)]; unfold vp; rw [if_neg (by omega), show gn G + i - gn G = i by omega]
theorem tw6l {a b : Nat → Int} {v : Nat} (h : v < 6) : two6 a b v = a v := if_pos h
theorem tw6r {a b : Nat → Int} {v : Nat} : two6 a b (6 + v) = b v := by
  unfold two6
  rw [if_neg (by omega), show 6 + v - 6 = v by omega]
theorem pr_hL {d : Nat → Nat} {x y : Nat → Int} (h : ∀ v, v < 6 → x v = y v) : pr (hL d) x = pr (hL d) y := pr_congr (fun v hv => by
  unfold hL
  by_cases h6 : v < 6
  · rw [if_pos h6, h v h6]
  · rw [if_neg h6]; rfl)
theorem pr_hR {d : Nat → Nat} {x y : Nat → Int} (h : ∀ v, v < 6 → x (6 + v) = y (6 + v)) : pr (hR d) x = pr (hR d) y := pr_congr (fun v hv => by
  unfold hR
  by_cases h6 : v < 6
  · rw [if_pos h6]; rfl
  · rw [if_neg h6, show v = 6 + (v - 6) by omega, h (v - 6) (by omega)])
/-- a gap, at a row -/
theorem gap_mul (hG : GOK G) {k : Nat} (hk : k < gn G) {A Y u : Nat → Int} : oi (lsm (ctr G k (two6 A Y) (fun κ => pr (dk κ) (two6 u O))) (Tk G k)) = oi (mul G A u k - mul G u Y k) := by
  have e1 : lsm (ctr G k (two6 A Y) (fun κ => pr (dk κ) (two6 u O))) (Tk G k) = lsm (fun e => cf G k e * Bn e (xl G (two6 A u)) + -(cf G k e) * Bn e (xl G (two6 u Y))) (Tk G k) := by
    refine lsm_congr _ (fun e he => ?_)
    obtain ⟨hd, hs3, hlen⟩ := Tk_dok hG hk he
    unfold ctr
    have p1 : pr (dk (ky (hS (dg G e)) 12)) (two6 u O) = pr (hR (dg G e)) (two6 A u) := by
      have a1 : pr (dk (ky (hS (dg G e)) 12)) (two6 u O) = pr (hS (dg G e)) (two6 u O) := pr_congr (fun v hv => by rw [dk_ky (fun w hw => by have := (hd.S.1 w hw).1; omega) hv])
      rw [a1]
      exact pr_shift (dg G e) u u (two6 u O) (two6 A u) (fun v hv => tw6l hv) (fun v _ => tw6r)
    have p2 : pr (dk (ky (hL (dg G e)) 12)) (two6 u O) = pr (hL (dg G e)) (two6 u Y) := by
      have a1 : pr (dk (ky (hL (dg G e)) 12)) (two6 u O) = pr (hL (dg G e)) (two6 u O) := pr_congr (fun v hv => by rw [dk_ky (fun w hw => by have := (hd.L.1 w hw).1; omega) hv])
      rw [a1]
      exact pr_hL (fun v hv => by rw [tw6l hv, tw6l hv])
    have p3 : pr (hL (dg G e)) (two6 A Y) = pr (hL (dg G e)) (two6 A u) := pr_hL (fun v hv => by rw [tw6l hv, tw6l hv])
    have p4 : pr (hR (dg G e)) (two6 A Y) = pr (hR (dg G e)) (two6 u Y) := pr_hR (fun v _ => by rw [tw6r, tw6r])
    show cf G k e * pr (hL (dg G e)) (two6 A Y) * pr (dk (ky (hS (dg G e)) 12)) (two6 u O) + -(cf G k e) * pr (hR (dg G e)) (two6 A Y) * pr (dk (ky (hL (dg G e)) 12)) (two6 u O) = _
    rw [p1, p2, p3, p4, ← val12 hG hlen, ← val12 hG hlen]
    have q1 := pr_halves (dg G e) (two6 A u)
    have q2 := pr_halves (dg G e) (two6 u Y)
    unfold pr at q1 q2
    rw [← q1, ← q2, Int.mul_assoc, Int.mul_assoc]
    congr 2
    exact Int.mul_comm _ _
  rw [e1]
  have e2 : ∀ L : List (List Nat), lsm (fun e => cf G k e * Bn e (xl G (two6 A u)) + -(cf G k e) * Bn e (xl G (two6 u Y))) L = lsm (fun e => cf G k e * Bn e (xl G (two6 A u))) L - lsm (fun e => cf G k e * Bn e (xl G (two6 u Y))) L := by
    intro L
    induction L with
    | nil => rfl
    | cons e L ih =>
      show cf G k e * Bn e (xl G (two6 A u)) + -(cf G k e) * Bn e (xl G (two6 u Y)) + lsm _ L = cf G k e * Bn e (xl G (two6 A u)) + lsm _ L - (cf G k e * Bn e (xl G (two6 u Y)) + lsm _ L)
      rw [ih, Int.neg_mul]
      omega
  rw [e2, ← oi_sub, tk_mul hG hk, tk_mul hG hk, oi_sub]
  have f1 : EqG G (two6 A u) A := fun i hi => tw6l (by have := hG.2.1; omega)
  have f2 : EqG G (fun i => two6 A u (6 + i)) u := fun i _ => tw6r
  have f3 : EqG G (two6 u Y) u := fun i hi => tw6l (by have := hG.2.1; omega)
  have f4 : EqG G (fun i => two6 u Y (6 + i)) Y := fun i _ => tw6r
  rw [(f1.times f2) k hk, (f3.times f4) k hk]
def GapOK (G : GD) (σ : Mem) (A Y : Nat → Int) : Prop := ∀ k, k < 6 → ∃ N, GS σ (104 + 4 * k) N ∧ NOK G N ∧ ∀ u, oi (nsm (fun κ => pr (dk κ) (two6 u O)) N) = oi (if k < gn G then mul G A u k - mul G u Y k else 0)
theorem GapOK.eqs {τ : Mem} {A Y : Nat → Int} (h : GapOK G σ A Y) (h1 : ∀ x, 104 ≤ x → x < 128 → τ.1 x = σ.1 x ∧ τ.2 x = σ.2 x) : GapOK G τ A Y := fun k hk => by
  obtain ⟨N, hS, hN, hu⟩ := h k hk
  refine ⟨N, ?_, hN, hu⟩
  unfold GS
  rw [(h1 (104 + 4 * k) (by omega) (by omega)).1, (h1 (104 + 4 * k + 1) (by omega) (by omega)).1, (h1 (104 + 4 * k + 2) (by omega) (by omega)).2, (h1 (104 + 4 * k + 3) (by omega) (by omega)).1]
  exact hS
theorem KL_left {κ v : Nat} (h : κ ∈ KL) (hv : v < 12) (h6 : 6 ≤ v) : dk κ v = 0 := by
  have key : KL.all (fun κ => (List.range 6).all (fun i => dk κ (6 + i) == 0)) = true := by decide +kernel
  have h1 := List.all_eq_true.mp (List.all_eq_true.mp key κ h) (v - 6) (List.mem_range.mpr (by omega))
  rw [show 6 + (v - 6) = v by omega] at h1
  exact eq_of_beq h1
theorem c_gapVal {k : Nat} {A Y u x : Nat → Int} (hk : k < 6) (h : GapOK G σ A Y) (hT : TbU G σ 100 x (fun v => v < 6)) (hx : ∀ v, v < 6 → x v = u v) : f_X9_value σ (104 + 4 * k) 100 = some (oi (if k < gn G then mul G A u k - mul G u Y k else 0)) := by
  obtain ⟨N, hS, hN, hu⟩ := h k hk
  rw [c_valueN (SP_gap hk).1 ln_100 hS hN (fun p hp => TbU.tabD hT (hN.1 p hp).1 (by show 0 < 6; omega) (fun v hv hne => by
    show v < 6
    refine Classical.byContradiction (fun q => hne (KL_left (hN.1 p hp).2.2.1 hv (by omega))))), ← hu u]
  have e : ∀ M : List (Nat × Int), (∀ p, p ∈ M → KOK G p.1) → nsm (fun κ => pr (dk κ) x) M = nsm (fun κ => pr (dk κ) (two6 u O)) M := by
    intro M
    induction M with
    | nil => intro _; rfl
    | cons p M ih =>
      intro hM
      have hp := hM p (List.mem_cons_self ..)
      show p.2 * pr (dk p.1) x + nsm _ M = p.2 * pr (dk p.1) (two6 u O) + nsm _ M
      rw [ih (fun q hq => hM q (List.mem_cons_of_mem _ hq))]
      congr 2
      refine pr_congr (fun v hv => ?_)
      by_cases h6 : v < 6
      · rw [hx v h6, tw6l h6]
      · rw [KL_left hp.2.2.1 hv (by omega)]; rfl
  rw [e N hN.1]
/-- what finding gaps changes -/
def FGp (σ τ : Mem) : Prop := (∀ x, x < 104 ∨ 127 < x → τ.1 x = σ.1 x) ∧ ∀ x, x ≠ 100 → x < 104 ∨ 127 < x → τ.2 x = σ.2 x
theorem FGp.trans {τ υ : Mem} (h : FGp σ τ) (k : FGp τ υ) : FGp σ υ := ⟨fun x h1 => (k.1 x h1).trans (h.1 x h1), fun x h1 h2 => (k.2 x h1 h2).trans (h.2 x h1 h2)⟩
theorem FGp.sc {τ : Mem} (h : FGp σ τ) : SC σ τ := ⟨fun x hx => h.1 x (by omega), fun c _ => by rw [h.1 40 (by omega)], fun c _ => by rw [h.1 144 (by omega)], fun x hx => h.2 x (by omega) (by omega)⟩
theorem c_gapTab {a b : Nat} {A B : Nat → Int} (ha : ln a = 6) (hb : ln b = 6) (hA : H6 σ a A) (hB : H6 σ b B) (ha3 : a ≠ 100) (hb3 : b ≠ 100) (wA : W1 G A) (wB : W1 G B) :
    ∃ τ, loopO (fun (z8 : Mem × Int32) => l_X7_findGaps_2 a b z8.1 z8.2) (σ, 0) = some τ ∧ OL (fun x => x = 100) σ τ ∧ Tb G τ 100 (two6 A B) := by
  have hl := loop_inv (body := fun (z8 : Mem × Int32) => l_X7_findGaps_2 a b z8.1 z8.2) (fun n z => ∃ k τ, k ≤ 6 ∧ n = 6 - k ∧ z = (τ, i32 k) ∧ OL (fun x => x = 100) σ τ ∧ TbU G τ 100 (two6 A B) (fun v => v % 6 < k)) (fun τ => OL (fun x => x = 100) σ τ ∧ Tb G τ 100 (two6 A B)) ?_ 6 (σ, 0) ⟨0, σ, by omega, rfl, rfl, OL.refl, fun v _ hv => absurd hv (Nat.not_lt_zero _)⟩
  · exact hl
  · rintro n z ⟨k, τ, hk, hn, rfl, ho, hT⟩
    by_cases hk6 : k = 6
    · right
      refine ⟨τ, ?_, ho, fun v hv => hT v hv (by show v % 6 < k; omega)⟩
      show l_X7_findGaps_2 _ _ _ _ = _
      unfold l_X7_findGaps_2
      rw [hk6, i32_6, if_pos (i_le (Nat.le_refl 6) (by omega))]
    · left
      obtain ⟨τ1, p1, o1, s1, r1⟩ := c_put (G := G) (σ := τ) (t := 100) (v := k) (y := A k) ln_100 (by omega) (fun h => wA k (by omega) (by rwa [Nat.mod_eq_of_lt (by omega)] at h))
      obtain ⟨τ2, p2, o2, s2, r2⟩ := c_put (G := G) (σ := τ1) (t := 100) (v := 6 + k) (y := B k) ln_100 (by omega) (fun h => wB k (by omega) (by rwa [show (6 + k) % 6 = k by omega] at h))
      have oo : OL (fun x => x = 100) σ τ1 := ho.trans o1
      refine ⟨(τ2, i32 (k + 1)), 6 - (k + 1), by omega, ?_, k + 1, τ2, by omega, rfl, rfl, oo.trans o2, fun v hv hvk => ?_⟩
      · show l_X7_findGaps_2 _ _ _ _ = _
        unfold l_X7_findGaps_2
        rw [i32_6, if_neg (i_nle (by omega) (by omega)), e_gL ha (by omega) (by omega), hA.keep ho ha3 k (by omega), p1, e_bs, e_gL hb (by omega) (by omega), hB.keep oo hb3 k (by omega), i32_add, p2, e_bs, i32_1, i32_add]
      · by_cases h1 : v = 6 + k
        · subst h1
          rw [tw6r]; exact s2
        · obtain ⟨q1, q2, q3⟩ := r2 v h1
          rw [q1, q2, q3]
          by_cases h2 : v = k
          · subst h2
            rw [tw6l (by omega)]; exact s1
          · obtain ⟨u1, u2, u3⟩ := r1 v h2
            rw [u1, u2, u3]
            exact hT v hv (by show v % 6 < k; have hvk' : v % 6 < k + 1 := hvk; omega)
theorem c_findGaps {a b : Nat} {A Y : Nat → Int} (hG : GOK G) (hP : CPoly G σ) (ha : ln a = 6) (hb : ln b = 6) (hA : H6 σ a A) (hB : H6 σ b Y) (ha3 : a ≠ 100) (hb3 : b ≠ 100) (wA : W1 G A) (wB : W1 G Y) : ∃ τ, f_X7_findGaps σ a b = some τ ∧ FGp σ τ ∧ GapOK G τ A Y ∧ Tb G τ 100 (two6 A Y) := by
  have hn := hG.2.1
  obtain ⟨σ1, e1, o1, t1⟩ := c_gapTab (G := G) ha hb hA hB ha3 hb3 wA wB
  have f1 : FGp σ σ1 := ⟨fun x _ => by rw [o1.1], fun x hx _ => o1.2 x hx⟩
  have hP1 : CPoly G σ1 := fun k hk => (hP k hk).of (f1.1 _ (by omega)) (f1.1 _ (by omega)) (f1.2 _ (by omega) (by omega)) (f1.1 _ (by omega))
  unfold f_X7_findGaps
  rw [e1, e_bs]
  unfold j_X7_findGaps_39
  have hloop := loop_inv (body := fun (z3 : (Mem × Int32)) => l_X7_findGaps_41 z3.1 z3.2) (fun n z => ∃ k τ, k ≤ 6 ∧ n = 6 - k ∧ z = (τ, i32 k) ∧ FGp σ1 τ ∧ τ.2 100 = σ1.2 100 ∧ ∀ p, p < k → ∃ N, GS τ (104 + 4 * p) N ∧ NOK G N ∧ ∀ u, oi (nsm (fun κ => pr (dk κ) (two6 u O)) N) = oi (if p < gn G then mul G A u p - mul G u Y p else 0)) (fun τ => FGp σ1 τ ∧ GapOK G τ A Y ∧ τ.2 100 = σ1.2 100) ?_ 6 (σ1, 0) ⟨0, σ1, by omega, rfl, rfl, ⟨fun _ _ => rfl, fun _ _ _ => rfl⟩, rfl, fun p hp => absurd hp (Nat.not_lt_zero _)⟩
  · obtain ⟨τ, e2, f2, g2, t2⟩ := hloop
    exact ⟨τ, e2, f1.trans f2, g2, fun v hv => by rw [t2]; exact t1 v hv⟩
  · rintro n z ⟨k, τ, hk, rfl, rfl, f, ht, hd⟩
    by_cases hk6 : k = 6
    · right
      subst hk6
      refine ⟨τ, ?_, f, hd, ht⟩
      show l_X7_findGaps_41 τ (i32 6) = _
      unfold l_X7_findGaps_41
      rw [i32_6, if_pos (i_le (Nat.le_refl _) (by omega))]
    · left
      have hk' : k < 6 := by omega
      obtain ⟨sp, r99⟩ := SP_gap hk'
      have f0 : FSa (104 + 4 * k) τ (wI τ (104 + 4 * k) 0 0) := ⟨fun x h1 _ _ => by funext y; rw [wI_1, if_neg (fun q => h1 q.1)], fun x _ => rfl⟩
      have hTb : Tb G (wI τ (104 + 4 * k) 0 0) 100 (two6 A Y) := fun v hv => by
        show τ.2 100 _ = _ ∧ τ.2 100 _ = _ ∧ (_ → τ.2 100 _ = _)
        rw [ht]; exact t1 v hv
      have hct : CT G (wI τ (104 + 4 * k) 0 0) k (if k < gn G then Tk G k else []) := by
        refine (hP1 k hk').of ?_ ?_ ?_ ?_
        · rw [f0.1 _ (by omega) (by omega) (by omega), f.1 _ (by omega)]
        · rw [f0.1 _ (by omega) (by omega) (by omega), f.1 _ (by omega)]
        · rw [f0.2 _ (by omega), f.2 _ (by omega) (by omega)]
        · rw [f0.1 _ (by omega) (by omega) (by omega), f.1 _ (by omega)]
      have hlen : (if k < gn G then Tk G k else []).length ≤ 455 := by
        by_cases hkn : k < gn G
        · rw [if_pos hkn]; exact Tk_len hG hkn
        · rw [if_neg hkn]; exact Nat.zero_le _
      have hmem : ∀ e, e ∈ (if k < gn G then Tk G k else []) → Dok G (dg G e) ∧ dsum (dg G e) 12 ≤ 3 := by
        intro e he
        by_cases hkn : k < gn G
        · rw [if_pos hkn] at he
          have := Tk_dok hG hkn he
          exact ⟨this.1, this.2.1⟩
        · rw [if_neg hkn] at he; cases he
      obtain ⟨τ2, N, e2, f2, s2, n2, g2⟩ := c_findGap hG hk' hct hlen hmem hTb (by rw [wI_1, if_pos ⟨rfl, rfl⟩])
      have ff := f0.trans f2
      refine ⟨(τ2, i32 (k + 1)), 6 - (k + 1), by omega, ?_, k + 1, τ2, by omega, rfl, rfl, ⟨fun x hx => by rw [ff.1 x (by omega) (by omega) (by omega)]; exact f.1 x hx, fun x h1 hx => by rw [ff.2 x (by omega)]; exact f.2 x h1 hx⟩, by rw [ff.2 100 (by omega)]; exact ht, fun p hp => ?_⟩
      · show l_X7_findGaps_41 τ (i32 k) = _
        unfold l_X7_findGaps_41
        rw [i32_6, if_neg (i_nle hk' (by omega)), e_gR ln_99 hk' (by omega), r99, e_pF, e_gR ln_44 hk' (by omega), rf_44 hk', e_gR ln_99 hk' (by omega), r99, e2, e_bs, i32_1, i32_add]
      · by_cases hpk : p = k
        · subst hpk
          refine ⟨N, s2, n2, fun u => ?_⟩
          rw [g2]
          by_cases hkn : p < gn G
          · rw [if_pos hkn, if_pos hkn]; exact gap_mul hG hkn
          · rw [if_neg hkn, if_neg hkn]; rfl
        · obtain ⟨M, hM1, hM2, hM3⟩ := hd p (by omega)
          refine ⟨M, ?_, hM2, hM3⟩
          unfold GS
          rw [ff.1 (104 + 4 * p) (by omega) (by omega) (by omega), ff.1 (104 + 4 * p + 1) (by omega) (by omega) (by omega), ff.2 (104 + 4 * p + 2) (by omega), ff.1 (104 + 4 * p + 3) (by omega) (by omega) (by omega)]
          exact hM1
end GP
