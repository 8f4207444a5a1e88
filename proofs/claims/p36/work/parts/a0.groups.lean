/-! group, tail, kind, undo, image -/
section GRP
variable {σ : Mem} {G : GD}
/-- what both come to, with a group made -/
theorem fin_new {c : Nat} {S : AS} {G' : GD} {σ τ : Mem} (ok : OKS S) (hG' : GOK G') (hc : ICls (c + 1) ((G', fun _ _ => 0), aT S, psh (aX S) (aA S), aI S, aP S, aF S) σ) (hr : IRef ((G', fun _ _ => 0), aT S, psh (aX S) (aA S), aI S, aP S, aF S) τ) (f : LO σ τ) : II (c + 1) τ := by
  refine ⟨((G', fun _ _ => 0), aT S, psh (aX S) (aA S), aI S, aP S, aF S), ⟨⟨hG', fun r i => ⟨by show (-999 : Int) ≤ 0; omega, by show (0 : Int) ≤ 999; omega⟩, fun r i _ => rfl⟩, ok.2.1, ⟨?_, fun X hX => ?_⟩, ok.2.2.2⟩, hc.lo f, hr⟩
  · show (psh (aX S) (aA S)).length ≤ 8
    rw [psh_len]; omega
  · have h1 : X ∈ aX S :: aA S := List.mem_of_mem_take hX
    rcases List.mem_cons.mp h1 with h | h
    · rw [h]; exact ok.1
    · exact ok.2.2.1.2 X h
theorem r_areWeights {n w : Nat} (h1 : 1 ≤ n) (h6 : n ≤ 6) {y : Int32} : ∃ b, f_X11_areWeights σ (i32 n) y = some b ∧ (b = true ↔ ∃ w, y = i32 w ∧ OKW n w) := by
  unfold f_X11_areWeights
  have e := r_in (σ := σ) (x := y) (l := 0) (u := 4095) ⟨by omega, by omega⟩ ⟨by omega, by omega⟩
  rw [show (0 : Int64) = oi 0 from rfl, show (4095 : Int64) = oi 4095 from rfl, e, e_bs]
  by_cases hy : 0 ≤ y.toInt ∧ y.toInt ≤ 4095
  · rw [decide_eq_true hy, if_pos rfl]
    have hyi := i32_of hy.1
    have hw : y.toInt.toNat ≤ 4095 := by omega
    generalize y.toInt.toNat = w at hyi hw
    subst hyi
    have uniq : (∃ w', i32 w = i32 w' ∧ OKW n w') ↔ OKW n w := by
      constructor
      · rintro ⟨w', e2, ok⟩
        have h4 : 4 ^ n ≤ 4 ^ 6 := Nat.pow_le_pow_right (by omega) h6
        have a1 := ok.2.2.1
        rw [i32_eq (by omega) (by omega)] at e2
        rw [e2]; exact ok
      · exact fun ok => ⟨w, rfl, ok⟩
    -- what the digits behind n tell
    have hlt : (∀ p, n ≤ p → p < 6 → dgt w p = 0) → w < 4 ^ n := by
      intro hz
      have key : ∀ d, d ≤ 6 - n → w < 4 ^ (6 - d) := by
        intro d
        induction d with
        | zero => intro _; show w < 4 ^ 6; omega
        | succ d ih =>
          intro hd
          have h2 := ih (by omega)
          have h3 := hz (6 - (d + 1)) (by omega) (by omega)
          rw [show 6 - d = (6 - (d + 1)) + 1 by omega, Nat.pow_succ] at h2
          unfold dgt at h3
          have h4 : w / 4 ^ (6 - (d + 1)) < 4 := (Nat.div_lt_iff_lt_mul (Nat.pow_pos (by omega))).mpr (by rw [Nat.mul_comm]; exact h2)
          have h5 : w / 4 ^ (6 - (d + 1)) = 0 := by
            generalize w / 4 ^ (6 - (d + 1)) = q at h3 h4 ⊢
            omega
          exact (Nat.div_eq_zero_iff_lt (Nat.pow_pos (by omega))).mp h5
      have := key (6 - n) (Nat.le_refl _)
      rwa [show 6 - (6 - n) = n by omega] at this
    have hl := loop_inv (body := fun (z3 : (Int32 × Int32)) => l_X11_areWeights_20 (i32 n) (i32 w) z3.1 z3.2) (fun m z => ∃ i, i ≤ 6 ∧ m = 6 - i ∧ z = (i32 (ah w i), i32 i) ∧ (∀ p, p < i → p < n → ah w p ≤ dgt w p) ∧ ∀ p, p < i → n ≤ p → dgt w p = 0) (fun r => (r = Sum.inr true ∧ OKW n w) ∨ ((r = Sum.inr false ∨ r = Sum.inl ()) ∧ ¬ OKW n w)) ?_ 6 (1, 0) ⟨0, by omega, rfl, rfl, fun p hp => absurd hp (Nat.not_lt_zero _), fun p hp => absurd hp (Nat.not_lt_zero _)⟩
    · obtain ⟨r, e1, ⟨rfl, hk⟩ | ⟨rfl | rfl, hk⟩⟩ := hl
      · rw [e1, e_bs]
        exact ⟨true, rfl, ⟨fun _ => uniq.mpr hk, fun _ => rfl⟩⟩
      · rw [e1, e_bs]
        exact ⟨false, rfl, ⟨fun z => absurd z (by decide), fun z => absurd (uniq.mp z) hk⟩⟩
      · rw [e1, e_bs]
        exact ⟨false, rfl, ⟨fun z => absurd z (by decide), fun z => absurd (uniq.mp z) hk⟩⟩
    · rintro m z ⟨i, hi, rfl, rfl, v1, v2⟩
      have hah : ah w i < 4 := by
        cases i with
        | zero => show 1 < 4; omega
        | succ i => exact dgt_lt
      have hdg := dgt_lt (w := w) (i := i)
      by_cases hi6 : i = 6
      · right
        subst hi6
        refine ⟨Sum.inr true, ?_, Or.inl ⟨rfl, h1, h6, hlt (fun p a b => v2 p b a), fun p hp => v1 p (by omega) hp⟩⟩
        show l_X11_areWeights_20 _ _ _ (i32 6) = _
        unfold l_X11_areWeights_20
        rw [if_pos (by decide)]
      · have hstart : ∀ {q}, ((if i32 n ≤ i32 i then (if i32 (dgt w i) ≤ 0 then (some (Sum.inl ())) else (some (Sum.inr (Sum.inr (Sum.inr false))))) else (if i32 (ah w i) ≤ i32 (dgt w i) then (some (Sum.inl ())) else (some (Sum.inr (Sum.inr (Sum.inl ()))))) : Option (Unit ⊕ ((Int32 × Int32) ⊕ (Unit ⊕ Bool)))).bind (Sum.elim (fun (z4 : Unit) => j_X11_areWeights_59 (i32 i) (i32 (dgt w i))) some)) = q → l_X11_areWeights_20 (i32 n) (i32 w) (i32 (ah w i)) (i32 i) = q := by
          intro q hq
          unfold l_X11_areWeights_20
          rw [i32_6, if_neg (i_nle (by omega) (by omega)), i_dgt (by omega) (by omega), e_bd]
          exact hq
        have j59 : j_X11_areWeights_59 (i32 i) (i32 (dgt w i)) = some (Sum.inl (i32 (ah w (i + 1)), i32 (i + 1))) := by
          unfold j_X11_areWeights_59
          rw [i32_1, i32_add]; rfl
        by_cases hin : n ≤ i
        · by_cases hd0 : dgt w i = 0
          · left
            refine ⟨(i32 (ah w (i + 1)), i32 (i + 1)), 6 - (i + 1), by omega, ?_, i + 1, by omega, rfl, rfl, fun p hp hpn => v1 p (by omega) hpn, fun p hp hpn => ?_⟩
            · show l_X11_areWeights_20 _ _ _ (i32 i) = _
              refine hstart ?_
              rw [if_pos (i_le hin (by omega)), if_pos (show i32 (dgt w i) ≤ 0 from i_le (b := 0) (by omega) (by omega)), e_bs]
              exact j59
            · by_cases h5 : p = i
              · rw [h5]; exact hd0
              · exact v2 p (by omega) hpn
          · right
            refine ⟨Sum.inr false, ?_, Or.inr ⟨Or.inl rfl, fun z => hd0 (dgt_hi z.2.2.1 hin)⟩⟩
            show l_X11_areWeights_20 _ _ _ (i32 i) = _
            refine hstart ?_
            rw [if_pos (i_le hin (by omega)), if_neg (show ¬ i32 (dgt w i) ≤ 0 from i_nle (b := 0) (by omega) (by omega)), e_bs]
            rfl
        · by_cases hq : ah w i ≤ dgt w i
          · left
            refine ⟨(i32 (ah w (i + 1)), i32 (i + 1)), 6 - (i + 1), by omega, ?_, i + 1, by omega, rfl, rfl, fun p hp hpn => ?_, fun p hp hpn => v2 p (by omega) hpn⟩
            · show l_X11_areWeights_20 _ _ _ (i32 i) = _
              refine hstart ?_
              rw [if_neg (i_nle (by omega) (by omega)), if_pos (i_le hq (by omega)), e_bs]
              exact j59
            · by_cases h5 : p = i
              · rw [h5]; exact hq
              · exact v1 p (by omega) hpn
          · right
            refine ⟨Sum.inl (), ?_, Or.inr ⟨Or.inr rfl, fun z => hq (z.2.2.2 i (by omega))⟩⟩
            show l_X11_areWeights_20 _ _ _ (i32 i) = _
            refine hstart ?_
            rw [if_neg (i_nle (by omega) (by omega)), if_neg (i_nle (by omega) (by omega)), e_bs]
            rfl
  · rw [decide_eq_false hy, if_neg (by decide)]
    refine ⟨false, rfl, ⟨fun z => absurd z (by decide), ?_⟩⟩
    rintro ⟨w, rfl, ok⟩
    exfalso
    have h4 : 4 ^ n ≤ 4 ^ 6 := Nat.pow_le_pow_right (by omega) h6
    have a1 := ok.2.2.1
    rw [i32_toInt (by omega)] at hy
    omega
theorem ok_0 : Ok_0 II := by
  intro c σ x y hc ⟨S, ok, h, hr⟩
  have f0 : SR σ (wI σ 306 0 0) := SR.fld (by omega)
  obtain ⟨b, e1, hb⟩ := c_areWeights (σ := σ) (x := x) (y := y)
  unfold f_X10_group
  rw [e1, e_bs]
  have e2 := fun τ : Mem => r_in (σ := τ) (x := x) (l := 1) (u := 6) ⟨by omega, by omega⟩ ⟨by omega, by omega⟩
  cases b with
  | true =>
    rw [if_pos rfl]
    obtain ⟨n, w, rfl, rfl, hok⟩ := hb.mp rfl
    have h4 : 4 ^ n ≤ 4 ^ 6 := Nat.pow_le_pow_right (by omega) hok.2.1
    have hw := hok.2.2.1
    have hn1 := hok.1
    have hn6 := hok.2.1
    obtain ⟨σ2, e3, a2, a3, a4, a5, a6⟩ := c_beginGroup h ok
    obtain ⟨σ3, e4, f4, m4⟩ := c_reset (σ := σ2) (n := n) (w := w) hok.2.1 (by omega)
    obtain ⟨σ4, e5, i5, hi5⟩ := c_newGroup (S := (aX S, aT S, psh (aX S) (aA S), aI S, aP S, aF S)) hc ok.1.1 (GW_ok hok) a2 a3 a5 f4 m4
    rw [e3, e_bs, e4, e_bs, e5, e_bs]
    -- the reference
    have hr4 := (hr.hi (a6.trans hi5)).told
    have f4' : LO σ4 (wI σ4 306 0 0) := LO.row (by omega)
    obtain ⟨c2, e6, hb2⟩ := r_areWeights (σ := wI σ4 306 0 0) (w := w) hok.1 hok.2.1 (y := i32 w)
    have hc2 : c2 = true := hb2.mpr ⟨w, rfl, hok⟩
    subst hc2
    obtain ⟨σ7, e7, r7, l7, _, _⟩ := r_keep2 hr4 ok
    obtain ⟨σ8, e8, f8, z8, n8⟩ := r_clears (σ := σ7) (n := n)
    have hl := loop_inv (body := fun (z7 : (Mem × Int32)) => l_X11_group_40 (i32 n) (i32 w) z7.1 z7.2) (fun m z => ∃ i τ, i ≤ n ∧ m = n - i ∧ z = (τ, i32 i) ∧ FG σ8 τ ∧ τ.1 306 9 = 0 ∧ τ.1 307 0 = i32 n ∧ (∀ p, p < i → τ.1 307 (1 + p) = i32 (dgt w p)) ∧ ∀ k, 1 + i ≤ k → k < 283 → τ.1 307 k = 0) (fun r => ∃ τ, r = (true, τ) ∧ FG σ8 τ ∧ τ.1 306 9 = 0 ∧ RB τ 307 0 (GW n w, fun _ _ => 0)) ?_ n (σ8, 0) ⟨0, σ8, by omega, rfl, rfl, FG.refl, n8, z8.1, fun p hp => absurd hp (Nat.not_lt_zero _), fun k h1 h2 => z8.2 k (by omega) h2⟩
    · obtain ⟨r, e9, τ, rfl, f9, n9, rb9⟩ := hl
      refine ⟨true, σ4, τ, rfl, ?_, fin_new ok (GW_ok hok) i5 (r7.newX (f8.trans f9) n9 rb9) (f4'.trans (l7.trans (f8.trans f9).lo))⟩
      unfold f_X11_group
      rw [e_pF, show (1 : Int64) = oi 1 from rfl, show (6 : Int64) = oi 6 from rfl, e2, e_bs, i32_toInt (by omega), decide_eq_true (by omega), if_pos rfl, e6, e_bs, if_pos rfl, e7, e_bs, e8, e_bs, e9]
    · rintro m z ⟨i, τ, hi, rfl, rfl, f9, n9, z0, z1, z2⟩
      by_cases hin : i = n
      · right
        subst hin
        refine ⟨_, ?_, τ, rfl, f9, n9, RB.weights z0 (fun p hp => ?_) (fun k h1 h2 => z2 k (by omega) h2)⟩
        · show l_X11_group_40 _ _ τ (i32 i) = _
          unfold l_X11_group_40
          rw [if_pos (i_le (Nat.le_refl _) (by omega))]
        · by_cases hp2 : p < i
          · exact z1 p hp2
          · rw [z2 _ (by omega) (by omega), dgt_hi hw (by omega)]; rfl
      · left
        refine ⟨(wI τ 307 (1 + i) (i32 (dgt w i)), i32 (i + 1)), n - (i + 1), by omega, ?_, i + 1, _, by omega, rfl, rfl, f9.trans FG.row, by rw [wI_1, if_neg (by omega)]; exact n9, by rw [wI_1, if_neg (by omega)]; exact z0, fun p hp => ?_, fun k h1 h2 => ?_⟩
        · show l_X11_group_40 (i32 n) (i32 w) τ (i32 i) = _
          unfold l_X11_group_40
          rw [if_neg (i_nle (by omega) (by omega)), i_dgt (by omega) (by omega), i32_1, i32_add, e_pI ln_307 (by omega) (by omega), i32_add]
        · rw [wI_1]
          by_cases h5 : p = i
          · rw [if_pos ⟨rfl, by omega⟩, h5]
          · rw [if_neg (by omega)]; exact z1 p (by omega)
        · rw [wI_1, if_neg (by omega)]; exact z2 k (by omega) h2
  | false =>
    rw [if_neg (by decide)]
    have hno : ¬ ∃ n w, x = i32 n ∧ y = i32 w ∧ OKW n w := fun z => absurd (hb.mpr z) (by decide)
    refine ⟨false, σ, wI σ 306 0 0, rfl, ?_, fin_q ok h hr.told f0.lo⟩
    unfold f_X11_group
    rw [e_pF, show (1 : Int64) = oi 1 from rfl, show (6 : Int64) = oi 6 from rfl, e2, e_bs]
    by_cases hx : 1 ≤ x.toInt ∧ x.toInt ≤ 6
    · rw [decide_eq_true hx, if_pos rfl]
      have hxi := i32_of (x := x) (by omega)
      obtain ⟨c2, e6, hb2⟩ := r_areWeights (σ := wI σ 306 0 0) (n := x.toInt.toNat) (w := 0) (by omega) (by omega) (y := y)
      rw [← hxi] at e6
      have : c2 = false := by
        cases c2 with
        | false => rfl
        | true =>
          obtain ⟨w, hw, hk⟩ := hb2.mp rfl
          exact absurd ⟨_, w, hxi, hw, hk⟩ hno
      subst this
      rw [e6, e_bs, if_neg (by decide)]
    · rw [decide_eq_false hx, if_neg (by decide)]
theorem c_mayBe {a b d : Nat} {v : Int32} {G : GD} (hG : GOK G) (h : CG σ 2 G) (ha : a < 6) (hb : b < 6) (hd : d < 6) {j i k : Int32} (ht : isTl (gn G) j i k = true) (ej : j - 1 = i32 a) (ei : i - 1 = i32 b) (ek : k - 1 = i32 d) : f_X6_mayBe σ 2 (j - 1) (i - 1) (k - 1) v = some (decide (0 ≤ v.toInt ∧ v.toInt ≤ 3 ∧ (v.toInt = 0 ∨ gw G b + gw G a ≤ gw G d))) := by
  have hn := hG.2.1
  have hw : ∀ i, i < 6 → gw G i ≤ 3 := fun i hi => by
    by_cases h1 : i < gn G
    · exact (hG.2.2.1 i h1).2
    · rw [hG.2.2.2.2.1 i (by omega)]; omega
  unfold f_X6_mayBe
  rw [c_isTl h.1 hn, e_bs, ht, if_pos rfl]
  by_cases h1 : v < 0
  · have := (lt32 (k := 0) (by omega)).mp h1
    rw [if_pos h1, decide_eq_false (by omega)]
  · have h1' : ¬ v.toInt < 0 := fun z => h1 ((lt32 (k := 0) (by omega)).mpr z)
    rw [if_neg h1]
    by_cases h2 : v ≤ 3
    · have h2' := (le32 (k := 3) (by omega)).mp h2
      rw [if_pos h2]
      by_cases h3 : v = 0
      · subst h3
        rw [if_pos rfl, e_bs]
        have : (0 : Int32).toInt = 0 := by decide
        rw [decide_eq_true (by omega)]; rfl
      · have h3' : v.toInt ≠ 0 := fun z => h3 (by rw [← Int32.toInt_inj, z]; decide)
        have w1 := hw a ha
        have w2 := hw b hb
        have w3 := hw d hd
        rw [if_neg h3, ej, ei, ek, RR2_2.1, e_gI ln_3 hd (by omega), h.2.1 d hd, e_gI ln_3 hb (by omega), h.2.1 b hb, e_gI ln_3 ha (by omega), h.2.1 a ha, i32_add]
        by_cases h4 : gw G d < gw G b + gw G a
        · rw [if_pos (i_lt h4 (by omega)), e_bs, decide_eq_false (by omega)]; rfl
        · rw [if_neg (i_nlt (by omega) (by omega)), e_bs, decide_eq_true (by omega)]; rfl
    · have h2' : ¬ v.toInt ≤ 3 := fun z => h2 ((le32 (k := 3) (by omega)).mpr z)
      rw [if_neg h2, decide_eq_false (by omega)]
theorem ok_1 : Ok_1 II := by
  intro c σ j i k v hc ⟨S, ok, h, hr⟩
  have f0 : SR σ (wI σ 306 0 0) := SR.fld (by omega)
  have hG : GOK (aG S) := ok.1.1
  have hn : gn (aG S) ≤ 6 := hG.2.1
  have ev := fun τ : Mem => r_in (σ := τ) (x := v) (l := 0) (u := 3) ⟨by omega, by omega⟩ ⟨by omega, by omega⟩
  unfold f_X10_tail
  cases ht : isTl (gn (aG S)) j i k with
  | false =>
    have e1 : f_X6_mayBe σ 2 (j - 1) (i - 1) (k - 1) v = some false := by
      unfold f_X6_mayBe
      rw [c_isTl h.1.1.1 hn, e_bs, ht, if_neg (by decide)]
    rw [e1, e_bs, if_neg (by decide)]
    refine ⟨false, σ, wI σ 306 0 0, rfl, ?_, fin_q ok h hr.told f0.lo⟩
    unfold f_X11_tail_
    rw [e_pF, r_isTl hr.told.1.mg hn, e_bs, ht, if_neg (by decide)]
  | true =>
    obtain ⟨a, b, d, hab, had, hdn, ea, eb, ed⟩ := isTl_idx ht
    rw [c_mayBe hG h.1.1 (by omega) (by omega) (by omega) ht ea eb ed, e_bs]
    by_cases hok : 0 ≤ v.toInt ∧ v.toInt ≤ 3 ∧ (v.toInt = 0 ∨ gw (aG S) b + gw (aG S) a ≤ gw (aG S) d)
    · rw [decide_eq_true hok, if_pos rfl, ea, eb, ed]
      have hvi := i32_of hok.1
      have hv3 : v.toInt.toNat ≤ 3 := by omega
      have hvw : v.toInt.toNat = 0 ∨ gw (aG S) b + gw (aG S) a ≤ gw (aG S) d := by omega
      have hG' := upT_ok hG (v := v.toInt.toNat) hv3 ⟨hab, had, hdn⟩ hvw
      obtain ⟨σ2, e3, a2, a3, a4, a5, a6⟩ := c_beginGroup h ok
      obtain ⟨σ3, e4, f4, m4⟩ := c_write (σ := σ2) (v := v.toInt.toNat) hn a4 hab had hdn
      rw [← hvi] at e4
      obtain ⟨σ4, e5, i5, hi5⟩ := c_newGroup (S := (aX S, aT S, psh (aX S) (aA S), aI S, aP S, aF S)) hc ok.1.1 hG' a2 a3 a5 f4 m4
      rw [e3, e_bs, e4, e_bs, e5, e_bs]
      have hr4 := (hr.hi (a6.trans hi5)).told
      have f4' : LO σ4 (wI σ4 306 0 0) := LO.row (by omega)
      obtain ⟨σ7, e7, r7, l7, _, _⟩ := r_keep2 hr4 ok
      obtain ⟨σ8, e8, f8, rb8⟩ := r_onesAll (σ := σ7) (G := aG S) (R := aR S) r7.1
      obtain ⟨σ9, e9, f9, rb9, n9⟩ := r_putsTail (σ := σ8) (j := a) (i := b) (k := d) (v := v.toInt.toNat) rb8 (by omega) (by omega) (by omega)
      rw [← hvi] at e9
      refine ⟨true, σ4, σ9, rfl, ?_, fin_new ok hG' i5 (r7.newX (f8.trans f9) n9 rb9) (f4'.trans (l7.trans (f8.trans f9).lo))⟩
      unfold f_X11_tail_
      have hcond : (if v ≤ 0 then (some (Sum.inl ())) else ((f_X11_weight (wI σ4 306 0 0) (k - 1)).bind (fun (v7 : Int32) => (f_X11_weight (wI σ4 306 0 0) (i - 1)).bind (fun (v8 : Int32) => (f_X11_weight (wI σ4 306 0 0) (j - 1)).bind (fun (v9 : Int32) => if (v8 + v9) ≤ v7 then (some (Sum.inl ())) else (some (Sum.inr (false, wI σ4 306 0 0))))))) : Option (Unit ⊕ (Bool × Mem))) = some (Sum.inl ()) := by
        by_cases h3 : v ≤ 0
        · rw [if_pos h3]
        · have h3' : ¬ v.toInt ≤ 0 := fun z => h3 ((le32 (k := 0) (by omega)).mpr z)
          have hg := hG.2.2.1 d hdn
          have hM : MG (wI σ4 306 0 0) (aG S) := hr4.1.mg
          rw [if_neg h3, ea, eb, ed, e_weight hM (by omega), e_bs, e_weight hM (by omega), e_bs, e_weight hM (by omega), e_bs, i32_add, if_pos (i_le (by omega) (by omega))]
      rw [e_pF, r_isTl hr4.1.mg hn, e_bs, ht, if_pos rfl, show (0 : Int64) = oi 0 from rfl, show (3 : Int64) = oi 3 from rfl, ev, e_bs, decide_eq_true ⟨hok.1, hok.2.1⟩, if_pos rfl, hcond, e_bs]
      show j_X11_tail__61 j i k v (wI σ4 306 0 0) = _
      unfold j_X11_tail__61
      rw [e7, e_bs, e8, e_bs, ea, eb, ed, e9, e_bs]
    · rw [decide_eq_false hok, if_neg (by decide)]
      refine ⟨false, σ, wI σ 306 0 0, rfl, ?_, fin_q ok h hr.told f0.lo⟩
      unfold f_X11_tail_
      rw [e_pF, r_isTl hr.told.1.mg hn, e_bs, ht, if_pos rfl, show (0 : Int64) = oi 0 from rfl, show (3 : Int64) = oi 3 from rfl, ev, e_bs]
      by_cases h3 : 0 ≤ v.toInt ∧ v.toInt ≤ 3
      · have hg := hG.2.2.1 d hdn
        have ha := hG.2.2.1 a (by omega)
        have hb := hG.2.2.1 b (by omega)
        have h4 : ¬ v ≤ 0 := fun z => by
          have := (le32 (k := 0) (by omega)).mp z
          omega
        have hM : MG (wI σ 306 0 0) (aG S) := hr.told.1.mg
        rw [decide_eq_true h3, if_pos rfl, if_neg h4, ea, eb, ed, e_weight hM (by omega), e_bs, e_weight hM (by omega), e_bs, e_weight hM (by omega), e_bs, i32_add, if_neg (i_nle (by omega) (by omega)), e_bs]
        rfl
      · rw [decide_eq_false h3, if_neg (by decide)]
end GRP
