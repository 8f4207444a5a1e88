/-! register: what it is, by simple questions -/
section RG1
variable {σ : Mem} {G : GD}
theorem c_bitB {b : Bool} : f_X10_bit σ b = some (if b = true then 1 else 0) := by
  unfold f_X10_bit
  split <;> rfl
theorem EE_z6 {i : Nat} (hi : i < gn G) : Z6 G (EE i) := fun k h1 _ => by
  unfold EE
  rw [if_neg (by omega)]
/-- an element that commutes with all -/
def CA (G : GD) (A : Nat → Int) : Prop := ∀ i, i < gn G → areS G (mul G A (EE i)) (mul G (EE i) A) = true
theorem c_commutesAll {c : Nat} {S : AS} (h : ICls c S σ) (ok : OKS S) (hcons : Cons (aG S)) {p : Nat} (hp : p < 10) : ∃ b τ, f_X10_commutesWithAll σ (6 + p) = some (b, τ) ∧ ICls c S τ ∧ HI σ τ ∧ (b = true ↔ CA (aG S) (aR S p)) := by
  have hG : GOK (aG S) := ok.1.1
  have hn : gn (aG S) ≤ 6 := hG.2.1
  unfold f_X10_commutesWithAll
  have hl := loop_inv (body := fun (z2 : (Mem × Int32)) => l_X10_commutesWithAll_2 (6 + p) z2.1 z2.2) (fun n z => ∃ i τ, i ≤ gn (aG S) ∧ n = gn (aG S) - i ∧ z = (τ, i32 i) ∧ ICls c S τ ∧ HI σ τ ∧ ∀ q, q < i → areS (aG S) (mul (aG S) (aR S p) (EE q)) (mul (aG S) (EE q) (aR S p)) = true) (fun r => ∃ b τ, r = (b, τ) ∧ ICls c S τ ∧ HI σ τ ∧ (b = true ↔ CA (aG S) (aR S p))) ?_ (gn (aG S)) (σ, 0) ⟨0, σ, by omega, rfl, rfl, h, HI.refl, fun q hq => absurd hq (Nat.not_lt_zero _)⟩
  · obtain ⟨r, e, b, τ, rfl, h1, h2, h3⟩ := hl
    exact ⟨b, τ, e, h1, h2, h3⟩
  · rintro n z ⟨i, τ, hi, rfl, rfl, hI, hhi, hd⟩
    have h20 : τ.1 2 0 = i32 (gn (aG S)) := hI.1.1.1
    by_cases hin : i = gn (aG S)
    · right
      subst hin
      refine ⟨_, ?_, true, τ, rfl, hI, hhi, fun _ => hd, fun _ => rfl⟩
      show l_X10_commutesWithAll_2 (6 + p) τ (i32 (gn (aG S))) = _
      unfold l_X10_commutesWithAll_2
      rw [e_gF, h20, if_pos (i_le (Nat.le_refl _) (by omega))]
    · obtain ⟨σ1, e1, o1, r1⟩ := c_makeGen (σ := τ) (a := 177) (i := i) (y := 1) ln_177 (by omega)
      have e1' : f_X0_makeGenerator τ 177 (i32 i) 1 = some σ1 := e1
      have s1 := o1.sc (fun x hx => by omega)
      have hI1 := hI.sc s1
      have r1' : H6 σ1 177 (EE i) := r1
      obtain ⟨σ2, e2, o2⟩ := c_doCommute hG (c_poly hI1 ok hcons) (a := 6 + p) (b := 177) (ln_reg hp) ln_177 (c_reg hI1 hp) r1' (by omega) (by omega) (M := 999) (by omega) (by omega) (reg_sb ok p) (EE_sb (by omega) i) (reg_z6 ok p) (EE_z6 (by omega))
      have s2 := o2.sc (fun x hx => by omega)
      have hbody : l_X10_commutesWithAll_2 (6 + p) τ (i32 i) = if areS (aG S) (mul (aG S) (aR S p) (EE i)) (mul (aG S) (EE i) (aR S p)) = true then some (Sum.inl (σ2, i32 i + 1)) else some (Sum.inr (false, σ2)) := by
        unfold l_X10_commutesWithAll_2
        rw [e_gF, h20, if_neg (i_nle (by omega) (by omega)), e1', e_bs, e2, e_bq]
      have hhi2 : HI σ σ2 := hhi.trans (s1.hi.trans s2.hi)
      by_cases hb : areS (aG S) (mul (aG S) (aR S p) (EE i)) (mul (aG S) (EE i) (aR S p)) = true
      · left
        refine ⟨(σ2, i32 (i + 1)), gn (aG S) - (i + 1), by omega, ?_, i + 1, σ2, by omega, rfl, rfl, hI1.sc s2, hhi2, fun q hq => ?_⟩
        · show l_X10_commutesWithAll_2 (6 + p) τ (i32 i) = _
          rw [hbody, if_pos hb, i32_1, i32_add]
        · by_cases hqi : q = i
          · rw [hqi]; exact hb
          · exact hd q (by omega)
      · right
        refine ⟨_, ?_, false, σ2, rfl, hI1.sc s2, hhi2, fun z => absurd z (by decide), fun z => absurd (z i (by omega)) hb⟩
        show l_X10_commutesWithAll_2 (6 + p) τ (i32 i) = _
        rw [hbody, if_neg hb]
/-! roots -/
def RtP (G : GD) (A : Nat → Int) (m : Nat) : Prop := (∀ k, k < gn G → rtOK G A m k) ∧ isEl G (rtU G A m (gn G)) = true
def GtR (G : GD) (A : Nat → Int) (r : Int32) : Prop := (∃ m, 2 ≤ m ∧ m ≤ 99 ∧ RtP G A m ∧ (∀ q, m < q → q ≤ 99 → ¬ RtP G A q) ∧ r = i32 m) ∨ ((∀ q, 2 ≤ q → q ≤ 99 → ¬ RtP G A q) ∧ r = 1)
theorem GtR.uniq {A : Nat → Int} {r q : Int32} (h : GtR G A r) (k : GtR G A q) : r = q := by
  rcases h with ⟨m, a1, a2, a3, a4, rfl⟩ | ⟨a1, rfl⟩
  · rcases k with ⟨n, b1, b2, b3, b4, rfl⟩ | ⟨b1, rfl⟩
    · rcases Nat.lt_trichotomy m n with c | c | c
      · exact absurd b3 (a4 n c b2)
      · rw [c]
      · exact absurd a3 (b4 m c a2)
    · exact absurd a3 (b1 m a1 a2)
  · rcases k with ⟨n, b1, b2, b3, b4, rfl⟩ | ⟨b1, rfl⟩
    · exact absurd b3 (a1 n b1 b2)
    · rfl
theorem i32_down {m : Nat} (h : 1 ≤ m) : i32 m + (-1) = i32 (m - 1) := by
  rw [← Int32.sub_eq_add_neg, i32_1, i32_sub h]
theorem c_roots {c : Nat} {S : AS} (h : ICls c S σ) (ok : OKS S) (hcons : Cons (aG S)) {p : Nat} (hp : p < 10) : ∃ r τ, f_X10_greatestRoot σ (6 + p) = some (r, τ) ∧ ICls c S τ ∧ HI σ τ ∧ GtR (aG S) (aR S p) r := by
  have hG : GOK (aG S) := ok.1.1
  unfold f_X10_greatestRoot
  have hl := loop_inv (body := fun (z3 : (Mem × Int32)) => l_X10_greatestRoot_3 (6 + p) z3.1 z3.2) (fun n z => ∃ τ, 1 ≤ n ∧ n ≤ 99 ∧ z = (τ, i32 n) ∧ ICls c S τ ∧ HI σ τ ∧ ∀ q, n < q → q ≤ 99 → ¬ RtP (aG S) (aR S p) q) (fun x => ∃ r τ, x = (r, τ) ∧ ICls c S τ ∧ HI σ τ ∧ GtR (aG S) (aR S p) r) ?_ 99 (σ, 99) ⟨σ, by omega, by omega, rfl, h, HI.refl, fun q h1 h2 => by omega⟩
  · obtain ⟨x, e, r, τ, rfl, h1, h2, h3⟩ := hl
    exact ⟨r, τ, e, h1, h2, h3⟩
  · rintro n z ⟨τ, h1, h99, rfl, hI, hhi, hno⟩
    by_cases hn1 : n = 1
    · right
      subst hn1
      refine ⟨_, ?_, 1, τ, rfl, hI, hhi, Or.inr ⟨fun q h1 h2 => hno q (by omega) h2, rfl⟩⟩
      show l_X10_greatestRoot_3 (6 + p) τ (i32 1) = _
      unfold l_X10_greatestRoot_3
      rw [if_pos (by decide)]
    · obtain ⟨b1, σ1, e1, o1, hb1, _⟩ := c_extract hG (out := 176) (x1 := 6 + p) (m := (i32 n).toInt64) (z := (n : Int)) (c_poly hI ok hcons) ln_176 (ln_reg hp) (c_reg hI hp) (reg_z6 ok p) (by omega) (n64 (by omega)) (by omega)
      rw [rt_all hG (reg_z6 ok p)] at hb1
      have s1 := o1.sc (fun x hx => by omega)
      have hbody : l_X10_greatestRoot_3 (6 + p) τ (i32 n) = if b1 = true then some (Sum.inr (i32 n, σ1)) else some (Sum.inl (σ1, i32 n + (-1))) := by
        unfold l_X10_greatestRoot_3
        rw [if_neg (show ¬ i32 n ≤ 1 from i_nle (b := 1) (by omega) (by omega)), e1, e_bq]
      cases hbt : b1 with
      | true =>
        right
        refine ⟨_, ?_, i32 n, σ1, rfl, hI.sc s1, hhi.trans s1.hi, Or.inl ⟨n, by omega, h99, hb1.mp hbt, hno, rfl⟩⟩
        show l_X10_greatestRoot_3 (6 + p) τ (i32 n) = _
        rw [hbody, if_pos hbt]
      | false =>
        left
        refine ⟨(σ1, i32 (n - 1)), n - 1, by omega, ?_, σ1, by omega, by omega, rfl, hI.sc s1, hhi.trans s1.hi, fun q q1 q2 => ?_⟩
        · show l_X10_greatestRoot_3 (6 + p) τ (i32 n) = _
          rw [hbody, hbt, if_neg (by decide), i32_down h1]
        · by_cases hqn : q = n
          · intro hr
            rw [hqn] at hr
            have := hb1.mpr hr
            rw [hbt] at this
            cases this
          · exact hno q (by omega) q2
theorem r_roots {f : SF} {A : Nat → Int} (hG : GOK G) (hM : MG σ G) (h0 : M0 σ) (hf : f 0 = A) (sA : SB G 999 A) : ∃ r g, f_X11_greatestRoot (PS σ f) 0 = some (r, PS σ g) ∧ GtR G A r := by
  unfold f_X11_greatestRoot
  have hl := loop_inv (body := fun (z3 : (Mem × Int32)) => l_X11_greatestRoot_3 0 z3.1 z3.2) (fun n z => ∃ g, 1 ≤ n ∧ n ≤ 99 ∧ z = (PS σ g, i32 n) ∧ g 0 = A ∧ ∀ q, n < q → q ≤ 99 → ¬ RtP G A q) (fun x => ∃ r g, x = (r, PS σ g) ∧ GtR G A r) ?_ 99 (PS σ f, 99) ⟨f, by omega, by omega, rfl, hf, fun q h1 h2 => by omega⟩
  · obtain ⟨x, e, r, g, rfl, h3⟩ := hl
    exact ⟨r, g, e, h3⟩
  · rintro n z ⟨g, h1, h99, rfl, hg, hno⟩
    by_cases hn1 : n = 1
    · right
      subst hn1
      refine ⟨_, ?_, 1, g, rfl, Or.inr ⟨fun q h1 h2 => hno q (by omega) h2, rfl⟩⟩
      show l_X11_greatestRoot_3 0 (PS σ g) (i32 1) = _
      unfold l_X11_greatestRoot_3
      rw [if_pos (by decide)]
    · have hz : (i32 n).toInt = (n : Int) := i32_toInt (by omega)
      obtain ⟨b2, g2, e2, hb2, hg2, k2⟩ := p_extracts (σ := σ) (f := g) hM hG h0 (s := 0) (t := 1) (m := i32 n) (z := (n : Int)) (by omega) (by omega) (by omega) hz (by omega) (by rw [hg]; exact sA)
      rw [hg] at hb2 hg2
      have e2' : f_X11_extracts (PS σ g) 0 1 (i32 n) = some (b2, PS σ g2) := e2
      have e3 : f_X11_isElement (PS σ g2) 1 = some (isEl G (g2 1)) := p_isElement hM hG (s := 1) (by omega)
      have hgA : g2 0 = A := by rw [k2 0 (by omega)]; exact hg
      have hyes : b2 = true → isEl G (g2 1) = true → l_X11_greatestRoot_3 0 (PS σ g) (i32 n) = some (Sum.inr (i32 n, PS σ g2)) := fun q1 q2 => by
        unfold l_X11_greatestRoot_3
        rw [if_neg (show ¬ i32 n ≤ 1 from i_nle (b := 1) (by omega) (by omega)), e2', e_bq, q1, if_pos rfl, e3, e_bs, q2, if_pos rfl, e_bs]
        rfl
      have hnoo : ¬ (b2 = true ∧ isEl G (g2 1) = true) → l_X11_greatestRoot_3 0 (PS σ g) (i32 n) = some (Sum.inl (PS σ g2, i32 (n - 1))) := fun q => by
        unfold l_X11_greatestRoot_3
        rw [if_neg (show ¬ i32 n ≤ 1 from i_nle (b := 1) (by omega) (by omega)), e2', e_bq]
        cases hb : b2 with
        | false =>
          rw [if_neg (by decide), e_bs]
          show j_X11_greatestRoot_28 (i32 n) (PS σ g2) = _
          unfold j_X11_greatestRoot_28
          rw [i32_down h1]
        | true =>
          rw [if_pos rfl, e3, e_bs, nb (fun z => q ⟨hb, z⟩), if_neg (by decide), e_bs]
          show j_X11_greatestRoot_28 (i32 n) (PS σ g2) = _
          unfold j_X11_greatestRoot_28
          rw [i32_down h1]
      by_cases hy : b2 = true ∧ isEl G (g2 1) = true
      · right
        refine ⟨_, hyes hy.1 hy.2, i32 n, g2, rfl, Or.inl ⟨n, by omega, h99, ⟨hb2.mp hy.1, ?_⟩, hno, rfl⟩⟩
        rw [← hg2 hy.1]; exact hy.2
      · left
        refine ⟨(PS σ g2, i32 (n - 1)), n - 1, by omega, hnoo hy, g2, by omega, by omega, rfl, hgA, fun q q1 q2 => ?_⟩
        by_cases hqn : q = n
        · intro hr
          rw [hqn] at hr
          have q3 := hb2.mpr hr.1
          exact hy ⟨q3, by rw [hg2 q3]; exact hr.2⟩
        · exact hno q (by omega) q2
/-! registers that are the same -/
theorem c_sameAs {c : Nat} {S : AS} (h : ICls c S σ) (ok : OKS S) {p : Nat} (hp : p < 10) : f_X10_sameAs σ (6 + p) = some (bits (fun r => areS (aG S) (aR S p) (aR S r)) 10) := by
  have hG : GOK (aG S) := ok.1.1
  unfold f_X10_sameAs
  refine loop_up (body := fun (z2 : (Int32 × Int32)) => l_X10_sameAs_4 σ (6 + p) z2.1 z2.2) (fun k => (bits (fun r => areS (aG S) (aR S p) (aR S r)) k, i32 k)) 0 10 _ (by omega) (fun k _ hk => ?_) ?_
  · show l_X10_sameAs_4 σ (6 + p) _ (i32 k) = _
    unfold l_X10_sameAs_4
    rw [i32_10, if_neg (i_nle hk (by omega)), e_gR ln_5 hk (by omega), rf_5 hk, c_same hG (ln_reg hp) (ln_reg hk) (c_reg h hp) (c_reg h hk) (reg_z6 ok p) (reg_z6 ok k), e_bs, bits]
    cases hb : areS (aG S) (aR S p) (aR S k) with
    | true =>
      rw [if_pos rfl, e_bd, e_bs, if_pos rfl]
      unfold j_X10_sameAs_32
      rw [show i32 k + 1 = i32 (k + 1) from by rw [i32_1, i32_add]]
    | false =>
      rw [if_neg (by decide), e_bs, if_neg (by decide)]
      unfold j_X10_sameAs_32
      rw [show i32 k + 1 = i32 (k + 1) from by rw [i32_1, i32_add]]
  · show l_X10_sameAs_4 σ (6 + p) _ (i32 10) = _
    unfold l_X10_sameAs_4
    rw [i32_10, if_pos (i_le (Nat.le_refl _) (by omega))]
theorem r_sameAs {S : AS} {f : SF} {p : Nat} (ok : OKS S) (hB : RB σ 307 0 (aX S)) (hf : f 0 = aR S p) {x : Int32} : ∃ g, f_X11_sameAs (PS σ f) x = some (bits (fun r => areS (aG S) (aR S p) (aR S r)) 10, PS σ g) := by
  have hG : GOK (aG S) := ok.1.1
  unfold f_X11_sameAs
  have hl := loop_inv (body := fun (z3 : (Mem × Int32 × Int32)) => l_X11_sameAs_4 z3.1 z3.2.1 z3.2.2) (fun n z => ∃ k g, k ≤ 10 ∧ n = 10 - k ∧ g 0 = aR S p ∧ z = (PS σ g, bits (fun r => areS (aG S) (aR S p) (aR S r)) k, i32 k)) (fun r => ∃ g, r = (bits (fun r => areS (aG S) (aR S p) (aR S r)) 10, PS σ g)) ?_ 10 (PS σ f, 0, 0) ⟨0, f, by omega, rfl, hf, rfl⟩
  · obtain ⟨r, e, g, rfl⟩ := hl
    exact ⟨g, e⟩
  · rintro n z ⟨k, g, hk, rfl, hg, rfl⟩
    by_cases hk10 : k = 10
    · right
      subst hk10
      refine ⟨_, ?_, g, rfl⟩
      show l_X11_sameAs_4 (PS σ g) _ (i32 10) = _
      unfold l_X11_sameAs_4
      rw [i32_10, if_pos (i_le (Nat.le_refl _) (by omega))]
    · left
      refine ⟨(PS σ (uS g 1 (aR S k)), bits (fun r => areS (aG S) (aR S p) (aR S r)) (k + 1), i32 (k + 1)), 10 - (k + 1), by omega, ?_, k + 1, _, by omega, rfl, by rw [uS_ne (by omega)]; exact hg, rfl⟩
      show l_X11_sameAs_4 (PS σ g) _ (i32 k) = _
      unfold l_X11_sameAs_4
      have a1 : f_X11_laysRegister (PS σ g) 1 (i32 k) = some (PS σ (uS g 1 (aR S k))) := p_lays (σ := σ) (f := g) hB ok (s := 1) (by omega) (by omega)
      have a2 : f_X11_areSame (PS σ (uS g 1 (aR S k))) 0 1 = some (areS (aG S) ((uS g 1 (aR S k)) 0) ((uS g 1 (aR S k)) 1)) := p_areSame hB.mg hG (s := 0) (r := 1) (by omega) (by omega)
      rw [uS_self, uS_ne (by omega), hg] at a2
      rw [i32_10, if_neg (i_nle (by omega) (by omega)), a1, e_bs, a2, e_bs, bits]
      cases hb : areS (aG S) (aR S p) (aR S k) with
      | true =>
        rw [if_pos rfl, e_bd, e_bs, if_pos rfl]
        unfold j_X11_sameAs_31
        rw [show i32 k + 1 = i32 (k + 1) from by rw [i32_1, i32_add]]
      | false =>
        rw [if_neg (by decide), e_bs, if_neg (by decide)]
        unfold j_X11_sameAs_31
        rw [show i32 k + 1 = i32 (k + 1) from by rw [i32_1, i32_add]]
end RG1
