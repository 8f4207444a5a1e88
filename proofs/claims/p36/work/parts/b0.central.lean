/-! central letters; generator, look: the calls -/
section CEN
variable {σ : Mem} {G : GD}
theorem areS_iff {A B : Nat → Int} : areS G A B = true ↔ ∀ k, k < gn G → oi (A k) = oi (B k) := by
  unfold areS
  rw [decide_eq_true_eq]
def Ctl (G : GD) (v : Nat) : Prop := ∀ i, i < gn G → ∀ k, k < gn G → gt G (max i v) (min i v) k = 0
theorem mul_up (hG : GOK G) {j i : Nat} (hi : i < j) (hj : j < gn G) (m : Nat) : mul G (EE i) (EE j) m = EE i m + EE j m := by
  rw [mul_EE hG hj, TL_top hG (v := EE i) hj (fun q hq => by unfold EE; rw [if_neg (by omega)])]
  rfl
theorem oi_t {X t : Int} (hX : 0 ≤ X ∧ X ≤ 2) (ht : 0 ≤ t ∧ t ≤ 3) : oi (X + t) = oi X ↔ t = 0 := by
  constructor
  · intro h
    have := congrArg Int64.toInt h
    rw [oi_toInt (by omega) (by omega), oi_toInt (by omega) (by omega)] at this
    omega
  · intro h
    rw [h, Int.add_zero]
theorem EE_01 (i m : Nat) : 0 ≤ EE i m ∧ EE i m ≤ 1 := by
  unfold EE
  split <;> omega
theorem tI_03 (hG : GOK G) (j i m : Nat) : 0 ≤ tI G j i m ∧ tI G j i m ≤ 3 := by
  have := hG.2.2.2.2.2.1 j i m
  unfold tI
  omega
theorem areS_comm {A B : Nat → Int} : areS G A B = true ↔ areS G B A = true := by
  rw [areS_iff, areS_iff]
  exact ⟨fun h k hk => (h k hk).symm, fun h k hk => (h k hk).symm⟩
theorem swap_iff (hG : GOK G) {j i : Nat} (hi : i < j) (hj : j < gn G) : areS G (mul G (EE j) (EE i)) (mul G (EE i) (EE j)) = true ↔ ∀ k, k < gn G → gt G j i k = 0 := by
  rw [areS_iff]
  have key : ∀ k, oi (mul G (EE j) (EE i) k) = oi (mul G (EE i) (EE j) k) ↔ gt G j i k = 0 := by
    intro k
    rw [EE_mul hG hi hj, mul_up hG hi hj]
    have h1 := EE_01 i k
    have h2 := EE_01 j k
    rw [oi_t (X := EE i k + EE j k) (t := tI G j i k) ⟨by omega, by omega⟩ (tI_03 hG j i k)]
    unfold tI
    omega
  exact ⟨fun h k hk => (key k).mp (h k hk), fun h k hk => (key k).mpr (h k hk)⟩
theorem ctl_iff (hG : GOK G) {v : Nat} (hv : v < gn G) : (∀ i, i < gn G → areS G (mul G (EE v) (EE i)) (mul G (EE i) (EE v)) = true) ↔ Ctl G v := by
  have key : ∀ i, i < gn G → (areS G (mul G (EE v) (EE i)) (mul G (EE i) (EE v)) = true ↔ ∀ k, k < gn G → gt G (max i v) (min i v) k = 0) := by
    intro i hi
    rcases Nat.lt_trichotomy i v with h | h | h
    · rw [swap_iff hG h hv, Nat.max_eq_right (by omega), Nat.min_eq_left (by omega)]
    · subst h
      rw [Nat.max_self, Nat.min_self]
      refine ⟨fun _ k _ => ?_, fun _ => areS_eq (fun k _ => rfl)⟩
      exact Classical.byContradiction (fun q => by have := (hG.2.2.2.2.2.2 i i k q).1; omega)
    · rw [areS_comm, swap_iff hG h hi, Nat.max_eq_left (by omega), Nat.min_eq_right (by omega)]
  exact ⟨fun h i hi => (key i hi).mp (h i hi), fun h i hi => (key i hi).mpr (h i hi)⟩
theorem e_maxN {a b : Nat} (ha : a < 2 ^ 31) (hb : b < 2 ^ 31) : f_J9_max_7cf53 σ (i32 a) (i32 b) = some (i32 (max a b)) := by
  rw [e_max]
  unfold mx32
  by_cases h : a < b
  · rw [if_pos (i_lt h hb), Nat.max_eq_right (by omega)]
  · rw [if_neg (i_nlt (by omega) ha), Nat.max_eq_left (by omega)]
/-- the class's test of a letter -/
theorem c_isCentral (hG : GOK G) (h : CG σ 2 G) {v : Nat} (hv : v < gn G) : ∃ b, f_X6_isCentral σ 2 (i32 v) = some b ∧ (b = true ↔ Ctl G v) := by
  have hn := hG.2.1
  unfold f_X6_isCentral
  refine loop_inv (body := fun (z1 : Int32) => l_X6_isCentral_2 σ 2 (i32 v) z1) (fun n z => ∃ i, i ≤ gn G ∧ n = gn G - i ∧ z = i32 i ∧ ∀ p, p < i → ∀ k, k < gn G → gt G (max p v) (min p v) k = 0) _ ?_ (gn G) 0 ⟨0, by omega, rfl, rfl, fun p hp => absurd hp (Nat.not_lt_zero _)⟩
  rintro n z ⟨i, hi, rfl, rfl, hd⟩
  by_cases hin : i = gn G
  · right
    subst hin
    refine ⟨true, ?_, fun _ => hd, fun _ => rfl⟩
    unfold l_X6_isCentral_2
    rw [e_gF, h.1, if_pos (i_le (Nat.le_refl _) (by omega))]
  · have inner : ∃ r, loopO (fun (z3 : Int32) => l_X6_isCentral_12 σ 2 (i32 v) (i32 i) z3) 0 = some r ∧ ((r = Sum.inl () ∧ ∀ k, k < gn G → gt G (max i v) (min i v) k = 0) ∨ (r = Sum.inr (Sum.inr false) ∧ ¬ ∀ k, k < gn G → gt G (max i v) (min i v) k = 0)) := by
      refine loop_inv (body := fun (z3 : Int32) => l_X6_isCentral_12 σ 2 (i32 v) (i32 i) z3) (fun n z => ∃ k, k ≤ gn G ∧ n = gn G - k ∧ z = i32 k ∧ ∀ p, p < k → gt G (max i v) (min i v) p = 0) _ ?_ (gn G) 0 ⟨0, by omega, rfl, rfl, fun p hp => absurd hp (Nat.not_lt_zero _)⟩
      rintro n z ⟨k, hk, rfl, rfl, hz⟩
      by_cases hkn : k = gn G
      · right
        subst hkn
        refine ⟨Sum.inl (), ?_, Or.inl ⟨rfl, hz⟩⟩
        unfold l_X6_isCentral_12
        rw [e_gF, h.1, if_pos (i_le (Nat.le_refl _) (by omega))]
      · have hbody : l_X6_isCentral_12 σ 2 (i32 v) (i32 i) (i32 k) = if i32 (gt G (max i v) (min i v) k) = 0 then some (Sum.inl (i32 k + 1)) else some (Sum.inr (Sum.inr (Sum.inr false))) := by
          unfold l_X6_isCentral_12
          rw [e_gF, h.1, if_neg (i_nle (by omega) (by omega)), e_maxN (by omega) (by omega), e_bs, e_min (by omega) (by omega), e_bs, c_read hG h RA2.1.1 RA2.1.2 (by omega) (by omega) (by omega), e_bs]
        by_cases hz0 : gt G (max i v) (min i v) k = 0
        · left
          refine ⟨i32 (k + 1), gn G - (k + 1), by omega, ?_, k + 1, by omega, rfl, rfl, fun p hp => ?_⟩
          · rw [hbody, hz0, if_pos (show i32 0 = 0 from rfl), i32_1, i32_add]
          · by_cases hpk : p = k
            · rw [hpk]; exact hz0
            · exact hz p (by omega)
        · right
          have ht3 := hG.2.2.2.2.2.1 (max i v) (min i v) k
          refine ⟨_, ?_, Or.inr ⟨rfl, fun q => hz0 (q k (by omega))⟩⟩
          rw [hbody, if_neg (i_ne0 hz0 (by omega))]
    obtain ⟨r, er, hcase⟩ := inner
    have hstep : l_X6_isCentral_2 σ 2 (i32 v) (i32 i) = (some r).bind (Sum.elim (fun (z2 : Unit) => j_X6_isCentral_46 (i32 i)) some) := by
      unfold l_X6_isCentral_2
      rw [e_gF, h.1, if_neg (i_nle (by omega) (by omega)), er]
    rcases hcase with ⟨rfl, hz⟩ | ⟨rfl, hz⟩
    · left
      refine ⟨i32 (i + 1), gn G - (i + 1), by omega, ?_, i + 1, by omega, rfl, rfl, fun p hp => ?_⟩
      · rw [hstep, e_bs]
        show j_X6_isCentral_46 (i32 i) = _
        unfold j_X6_isCentral_46
        rw [i32_1, i32_add]
      · by_cases hpi : p = i
        · rw [hpi]; exact hz
        · exact hd p (by omega)
    · right
      refine ⟨false, ?_, fun q => absurd q (by decide), fun q => absurd (fun k hk => q i (by omega) k hk) hz⟩
      rw [hstep, e_bs]
      rfl
theorem EE_sb {B : Int} (hB : 1 ≤ B) (i : Nat) : SB G B (EE i) := fun j _ _ => by have := EE_01 i j; omega
/-- the reference's test of an element -/
theorem r_central {f : SF} (hG : GOK G) (hJ : Jac G) (hM : MG σ G) (h0 : M0 σ) {s t : Nat} (hst : s < t) (ht : t + 3 < 100) (sA : SB G 999 (f s)) : ∃ b g, f_X11_isCentral (PS σ f) (i32 s) (i32 t) = some (b, PS σ g) ∧ (b = true ↔ ∀ i, i < gn G → areS G (mul G (f s) (EE i)) (mul G (EE i) (f s)) = true) ∧ ∀ q, q < t → g q = f q := by
  have hn := hG.2.1
  unfold f_X11_isCentral
  have hl := loop_inv (body := fun (z2 : (Mem × Int32)) => l_X11_isCentral_2 (i32 s) (i32 t) z2.1 z2.2) (fun n z => ∃ i g, i ≤ gn G ∧ n = gn G - i ∧ z = (PS σ g, i32 i) ∧ (∀ q, q < t → g q = f q) ∧ ∀ p, p < i → areS G (mul G (f s) (EE p)) (mul G (EE p) (f s)) = true) (fun r => ∃ b g, r = (b, PS σ g) ∧ (b = true ↔ ∀ i, i < gn G → areS G (mul G (f s) (EE i)) (mul G (EE i) (f s)) = true) ∧ ∀ q, q < t → g q = f q) ?_ (gn G) (PS σ f, 0) ⟨0, f, by omega, rfl, rfl, fun _ _ => rfl, fun p hp => absurd hp (Nat.not_lt_zero _)⟩
  · obtain ⟨r, e, b, g, rfl, h1, h2⟩ := hl
    exact ⟨b, g, e, h1, h2⟩
  · rintro n z ⟨i, g, hi, rfl, rfl, hg, hd⟩
    by_cases hin : i = gn G
    · right
      subst hin
      refine ⟨_, ?_, true, g, rfl, ⟨fun _ => hd, fun _ => rfl⟩, hg⟩
      show l_X11_isCentral_2 (i32 s) (i32 t) (PS σ g) (i32 (gn G)) = _
      unfold l_X11_isCentral_2
      rw [e_n (PS_MG hM), e_bs, if_pos (i_le (Nat.le_refl _) (by omega))]
    · have a1 : f_X11_ones (PS σ g) (i32 t) = some (PS σ (uS g t (fun _ => 0))) := p_ones (by omega)
      have a2 : f_X11_puts (PS σ (uS g t (fun _ => 0))) (i32 t) (i32 i) 1 = some (PS σ (uS (uS g t (fun _ => 0)) t (uV ((uS g t (fun _ => 0)) t) i 1))) := p_puts (σ := σ) (f := uS g t (fun _ => 0)) (x := 1) (by omega) (by omega)
      have v1 : (uS (uS g t (fun _ => 0)) t (uV ((uS g t (fun _ => 0)) t) i 1)) t = EE i := by
        rw [uS_self, uS_self]
        rfl
      have v0 : (uS (uS g t (fun _ => 0)) t (uV ((uS g t (fun _ => 0)) t) i 1)) s = f s := by
        rw [uS_ne (by omega), uS_ne (by omega)]
        exact hg s hst
      have vq : ∀ q, q < t → (uS (uS g t (fun _ => 0)) t (uV ((uS g t (fun _ => 0)) t) i 1)) q = f q := fun q hq => by
        rw [uS_ne (by omega), uS_ne (by omega)]
        exact hg q hq
      generalize uS (uS g t (fun _ => 0)) t (uV ((uS g t (fun _ => 0)) t) i 1) = g1 at a2 v1 v0 vq
      obtain ⟨g2, e2, w2, k2⟩ := p_commutator (σ := σ) (f := g1) hM hG h0 (s := s) (r := t) (t := t + 1) (by omega) (by omega) (by omega) (by omega) (by omega) (B := 999) (by omega) (by omega) (by rw [v0]; exact sA) (by rw [v1]; exact EE_sb (by omega) i)
      rw [v0, v1] at w2
      have e3 : f_X11_isOne (PS σ g2) (i32 (t + 1)) = some (isO G (g2 (t + 1))) := p_isOne hM hG (by omega)
      rw [w2, isO_comm hG hJ] at e3
      have hbody : l_X11_isCentral_2 (i32 s) (i32 t) (PS σ g) (i32 i) = if areS G (mul G (f s) (EE i)) (mul G (EE i) (f s)) = true then some (Sum.inl (PS σ g2, i32 i + 1)) else some (Sum.inr (false, PS σ g2)) := by
        unfold l_X11_isCentral_2 f_X11_areCommuting
        rw [e_n (PS_MG hM), e_bs, if_neg (i_nle (by omega) (by omega)), a1, e_bs, a2, e_bs, i32_1, i32_add, e2, e_bs, e3, e_bs, e_bq, i32_add]
      by_cases hb : areS G (mul G (f s) (EE i)) (mul G (EE i) (f s)) = true
      · left
        refine ⟨(PS σ g2, i32 (i + 1)), gn G - (i + 1), by omega, ?_, i + 1, g2, by omega, rfl, rfl, fun q hq => by rw [k2 q (by omega)]; exact vq q hq, fun p hp => ?_⟩
        · show l_X11_isCentral_2 (i32 s) (i32 t) (PS σ g) (i32 i) = _
          rw [hbody, if_pos hb, i32_1, i32_add]
        · by_cases hpi : p = i
          · rw [hpi]; exact hb
          · exact hd p (by omega)
      · right
        refine ⟨_, ?_, false, g2, rfl, ⟨fun q => absurd q (by decide), fun q => absurd (q i (by omega)) hb⟩, fun q hq => by rw [k2 q (by omega)]; exact vq q hq⟩
        show l_X11_isCentral_2 (i32 s) (i32 t) (PS σ g) (i32 i) = _
        rw [hbody, if_neg hb]
theorem r_centralLetter {f : SF} (hG : GOK G) (hJ : Jac G) (hM : MG σ G) (h0 : M0 σ) {v : Nat} (hv : v < gn G) : ∃ b g, f_X11_isCentralLetter (PS σ f) (i32 v) = some (b, PS σ g) ∧ (b = true ↔ Ctl G v) := by
  have hn := hG.2.1
  have a1 : f_X11_ones (PS σ f) 0 = some (PS σ (uS f 0 (fun _ => 0))) := p_ones (s := 0) (by omega)
  have a2 : f_X11_puts (PS σ (uS f 0 (fun _ => 0))) 0 (i32 v) 1 = some (PS σ (uS (uS f 0 (fun _ => 0)) 0 (uV ((uS f 0 (fun _ => 0)) 0) v 1))) := p_puts (σ := σ) (f := uS f 0 (fun _ => 0)) (s := 0) (x := 1) (by omega) (by omega)
  have v1 : (uS (uS f 0 (fun _ => 0)) 0 (uV ((uS f 0 (fun _ => 0)) 0) v 1)) 0 = EE v := by
    rw [uS_self, uS_self]
    rfl
  generalize uS (uS f 0 (fun _ => 0)) 0 (uV ((uS f 0 (fun _ => 0)) 0) v 1) = g1 at a2 v1
  obtain ⟨b, g, e, hb, _⟩ := r_central (σ := σ) (f := g1) hG hJ hM h0 (s := 0) (t := 1) (by omega) (by omega) (by rw [v1]; exact EE_sb (by omega) v)
  rw [v1, ctl_iff hG hv] at hb
  refine ⟨b, g, ?_, hb⟩
  unfold f_X11_isCentralLetter
  have e' : f_X11_isCentral (PS σ g1) 0 1 = some (b, PS σ g) := e
  rw [a1, e_bs, a2, e_bs, e', e_bq]
theorem ok_19 : Ok_19 II := by
  intro c σ x w hc ⟨S, ok, h, hr⟩
  have hG : GOK (aG S) := ok.1.1
  have hn : gn (aG S) ≤ 6 := hG.2.1
  obtain ⟨b, hb, hB⟩ := c_cons h
  have f0 : LO σ (wI σ 306 0 0) := LO.row (by omega)
  have hr0 := hr.told
  unfold f_X10_generator f_X11_generator
  rw [c_isGen h.1.1.1 hn, e_bs, e_pF, e_n hr0.1.mg, e_bs, r_isGen hn, e_bs]
  cases hx : isGen (gn (aG S)) x with
  | false =>
    rw [if_neg (by decide), if_neg (by decide)]
    exact ⟨_, _, rfl, rfl, fin_q ok h hr0 f0⟩
  | true =>
    obtain ⟨k, hk, rfl, hk1⟩ := isGen_idx hx
    rw [if_pos rfl, if_pos rfl, hk1]
    by_cases w0 : w = 0
    · subst w0
      rw [if_neg (by decide), if_pos (by decide), if_pos rfl, if_pos rfl, e_gI ln_3 (by omega) (by omega), h.1.1.2.1 k (by omega), e_weight hr0.1.mg (by omega), e_bs]
      exact ⟨_, _, rfl, rfl, fin_q ok h hr0 f0⟩
    · by_cases w1 : w = 1
      · subst w1
        rw [if_neg (by decide), if_pos (by decide), if_neg (by decide), if_neg (by decide), if_pos rfl, e_gZ hb]
        obtain ⟨b3, τ, e3, q3, l3, _, _, hc3⟩ := r_cons hr0 ok
        have : b3 = b := bool_iff hc3 hB
        subst this
        rw [e3, e_bq]
        cases hbt : b3 with
        | false =>
          rw [if_neg (by decide), if_neg (by decide), e_bs]
          exact ⟨_, _, rfl, rfl, fin_q ok h q3 (f0.trans l3)⟩
        | true =>
          have hJ := Cons.jac hG (hB.mp hbt)
          obtain ⟨⟨f, hf⟩, hI, hL, hM, h0, hRB⟩ := at_slots q3
          obtain ⟨bc, ec, hbc⟩ := c_isCentral hG h.1.1 hk
          obtain ⟨br, g, er, hbr⟩ := r_centralLetter (σ := τ) (f := f) hG hJ hM h0 hk
          have : br = bc := bool_iff hbr hbc
          subst this
          rw [hf] at er
          rw [if_pos rfl, if_pos rfl, ec, e_bs, er, e_bq]
          unfold f_X10_bit
          cases br with
          | false => exact ⟨0, _, rfl, rfl, fin_q ok h (hI g) (f0.trans (l3.trans (hL _)))⟩
          | true => exact ⟨1, _, rfl, rfl, fin_q ok h (hI g) (f0.trans (l3.trans (hL _)))⟩
      · rw [if_neg w1, e_bs, if_neg w0]
        refine ⟨-1, _, ?_, (by rw [if_neg w0]; rfl), fin_q ok h hr0 f0⟩
        by_cases h1 : w < 0
        · rw [if_pos h1]
        · rw [if_neg h1, if_neg (fun q => by
            have a1 : ¬ w.toInt < 0 := fun z => h1 ((lt32 (k := 0) (by omega)).mpr z)
            have a2 := (le32 (k := 1) (by omega)).mp q
            have a3 := i32_of (x := w) (by omega)
            rcases (show w.toInt.toNat = 0 ∨ w.toInt.toNat = 1 by omega) with z | z
            · rw [z] at a3; exact w0 a3
            · rw [z] at a3; exact w1 a3)]
end CEN
section LOK
variable {σ : Mem} {G : GD}
def cpos (f : Nat → Int32) : Nat → Int32
  | 0 => 0
  | p + 1 => if f p ≤ 0 then cpos f p else cpos f p + 1
def bits (f : Nat → Bool) : Nat → Int32
  | 0 => 0
  | k + 1 => if f k = true then bits f k ||| (1 <<< (i32 k &&& 31)) else bits f k
theorem c_top2 (hG : GOK G) (h : CG σ 2 G) : f_X6_top σ 2 = some (i32 (topG G)) := c_top hG h (by decide +kernel) ln_3
theorem c_tails {f : Nat → Int32} (hf : ∀ p, p < 216 → σ.1 4 p = f p) : f_X6_tailsAboveZero σ 2 = some (cpos f 216) := by
  unfold f_X6_tailsAboveZero
  refine loop_up (body := fun (z2 : (Int32 × Int32)) => l_X6_tailsAboveZero_4 σ 2 z2.1 z2.2) (fun k => (cpos f k, i32 k)) 0 216 _ (by omega) (fun k _ hk => ?_) ?_
  · show l_X6_tailsAboveZero_4 σ 2 (cpos f k) (i32 k) = _
    unfold l_X6_tailsAboveZero_4
    rw [RA2.1.1, show ln (2 + 2) = 216 from ln_4, show Int32.ofNat 216 = i32 216 from rfl, if_neg (i_nle (a := 216) hk (by omega)), e_gI ln_4 hk (by omega), hf k hk]
    by_cases hp : f k ≤ 0
    · rw [if_pos hp, e_bs]
      unfold j_X6_tailsAboveZero_28
      rw [e_bd, i32_1, i32_add, cpos, if_pos hp]
      show some (Sum.inl (cpos f k + 0, _)) = _
      rw [Int32.add_zero]
    · rw [if_neg hp, e_bs]
      unfold j_X6_tailsAboveZero_28
      rw [e_bd, i32_1, i32_add, cpos, if_neg hp]
      rfl
  · show l_X6_tailsAboveZero_4 σ 2 (cpos f 216) (i32 216) = _
    unfold l_X6_tailsAboveZero_4
    rw [RA2.1.1, show ln (2 + 2) = 216 from ln_4, show Int32.ofNat 216 = i32 216 from rfl, if_pos (i_le (a := 216) (Nat.le_refl _) (by omega))]
theorem r_tailsAll {f : Nat → Int32} (hf : ∀ p, p < 216 → σ.1 307 (7 + p) = f p) : f_X11_tails σ = some (cpos f 216) := by
  unfold f_X11_tails
  refine loop_up (body := fun (z2 : (Int32 × Int32)) => l_X11_tails_5 σ z2.1 z2.2) (fun k => (cpos f k, i32 (7 + k))) 0 216 _ (by omega) (fun k _ hk => ?_) ?_
  · show l_X11_tails_5 σ (cpos f k) (i32 (7 + k)) = _
    unfold l_X11_tails_5
    rw [i32_223, if_neg (i_nle (by omega) (by omega)), e_gI ln_307 (by omega) (by omega), hf k hk]
    by_cases hp : f k ≤ 0
    · rw [if_pos hp, e_bs]
      unfold j_X11_tails_25
      rw [i32_1, i32_add, cpos, if_pos hp]
      rfl
    · rw [if_neg hp, e_bd, e_bs]
      unfold j_X11_tails_25
      rw [show i32 (7 + k) + 1 = i32 (7 + k + 1) from by rw [i32_1, i32_add], cpos, if_neg hp]
      rfl
  · show l_X11_tails_5 σ (cpos f 216) (i32 (7 + 216)) = _
    unfold l_X11_tails_5
    rw [i32_223, if_pos (i_le (Nat.le_refl _) (by omega))]
def csum (f : Nat → Int32) : Nat → Int32
  | 0 => 0
  | p + 1 => csum f p + f p
theorem c_count4 {f : Nat → Int32} (hf : ∀ k, k < 6 → σ.1 (48 + 4 * k) 0 = f k) : f_X4_termCount σ = some (csum f 6) := by
  unfold f_X4_termCount
  refine loop_up (body := fun (z2 : (Int32 × Int32)) => l_X4_termCount_4 σ z2.1 z2.2) (fun k => (csum f k, i32 k)) 0 6 _ (by omega) (fun k _ hk => ?_) ?_
  · show l_X4_termCount_4 σ (csum f k) (i32 k) = _
    unfold l_X4_termCount_4
    rw [i32_6, if_neg (i_nle hk (by omega)), e_gR ln_44 hk (by omega), rf_44 hk, e_gF, e_bd, hf k hk, i32_1, i32_add]
    rfl
  · show l_X4_termCount_4 σ (csum f 6) (i32 6) = _
    unfold l_X4_termCount_4
    rw [i32_6, if_pos (i_le (Nat.le_refl _) (by omega))]
theorem r_countAll {f : Nat → Int32} (hf : ∀ k, k < 6 → σ.1 311 k = f k) : loopO (fun (z3 : (Int32 × Int32)) => l_X11_termsOfAll_8 σ z3.1 z3.2) (0, 0) = some (csum f 6, σ) := by
  refine loop_up (body := fun (z3 : (Int32 × Int32)) => l_X11_termsOfAll_8 σ z3.1 z3.2) (fun k => (csum f k, i32 k)) 0 6 _ (by omega) (fun k _ hk => ?_) ?_
  · show l_X11_termsOfAll_8 σ (csum f k) (i32 k) = _
    unfold l_X11_termsOfAll_8
    rw [i32_6, if_neg (i_nle hk (by omega)), e_gI ln_311 hk (by omega), e_bd, hf k hk, i32_1, i32_add]
    rfl
  · show l_X11_termsOfAll_8 σ (csum f 6) (i32 6) = _
    unfold l_X11_termsOfAll_8
    rw [i32_6, if_pos (i_le (Nat.le_refl _) (by omega))]
theorem c_notOnes {c : Nat} {S : AS} (h : ICls c S σ) (ok : OKS S) : f_X10_registersNotOne σ = some (bits (fun r => !(isO (aG S) (aR S r))) 10) := by
  have hG : GOK (aG S) := ok.1.1
  unfold f_X10_registersNotOne
  refine loop_up (body := fun (z2 : (Int32 × Int32)) => l_X10_registersNotOne_4 σ z2.1 z2.2) (fun k => (bits (fun r => !(isO (aG S) (aR S r))) k, i32 k)) 0 10 _ (by omega) (fun k _ hk => ?_) ?_
  · show l_X10_registersNotOne_4 σ _ (i32 k) = _
    unfold l_X10_registersNotOne_4
    rw [i32_10, if_neg (i_nle hk (by omega)), e_gR ln_5 hk (by omega), rf_5 hk, c_isOne hG (ln_reg hk) (c_reg h hk) (reg_z6 ok k), e_bs, bits]
    cases hb : isO (aG S) (aR S k) with
    | false =>
      rw [if_neg (by decide), e_bd, e_bs, if_pos (by decide)]
      unfold j_X10_registersNotOne_31
      rw [show i32 k + 1 = i32 (k + 1) from by rw [i32_1, i32_add]]
    | true =>
      rw [if_pos rfl, e_bs, if_neg (by decide)]
      unfold j_X10_registersNotOne_31
      rw [show i32 k + 1 = i32 (k + 1) from by rw [i32_1, i32_add]]
  · show l_X10_registersNotOne_4 σ _ (i32 10) = _
    unfold l_X10_registersNotOne_4
    rw [i32_10, if_pos (i_le (Nat.le_refl _) (by omega))]
theorem r_notOnes {S : AS} {f : SF} (hr : IRef S σ) (ok : OKS S) : ∃ g, f_X11_notOnes (PS σ f) = some (bits (fun r => !(isO (aG S) (aR S r))) 10, PS σ g) := by
  have hG : GOK (aG S) := ok.1.1
  unfold f_X11_notOnes
  have hl := loop_inv (body := fun (z3 : (Mem × Int32 × Int32)) => l_X11_notOnes_4 z3.1 z3.2.1 z3.2.2) (fun n z => ∃ k g, k ≤ 10 ∧ n = 10 - k ∧ z = (PS σ g, bits (fun r => !(isO (aG S) (aR S r))) k, i32 k)) (fun r => ∃ g, r = (bits (fun r => !(isO (aG S) (aR S r))) 10, PS σ g)) ?_ 10 (PS σ f, 0, 0) ⟨0, f, by omega, rfl, rfl⟩
  · obtain ⟨r, e, g, rfl⟩ := hl
    exact ⟨g, e⟩
  · rintro n z ⟨k, g, hk, rfl, rfl⟩
    by_cases hk10 : k = 10
    · right
      subst hk10
      refine ⟨_, ?_, g, rfl⟩
      show l_X11_notOnes_4 (PS σ g) _ (i32 10) = _
      unfold l_X11_notOnes_4
      rw [i32_10, if_pos (i_le (Nat.le_refl _) (by omega))]
    · left
      refine ⟨(PS σ (uS g 0 (aR S k)), bits (fun r => !(isO (aG S) (aR S r))) (k + 1), i32 (k + 1)), 10 - (k + 1), by omega, ?_, k + 1, _, by omega, rfl, rfl⟩
      show l_X11_notOnes_4 (PS σ g) _ (i32 k) = _
      unfold l_X11_notOnes_4
      have a1 : f_X11_laysRegister (PS σ g) 0 (i32 k) = some (PS σ (uS g 0 (aR S k))) := p_lays (σ := σ) (f := g) hr.1 ok (s := 0) (by omega) (by omega)
      have a2 : f_X11_isOne (PS σ (uS g 0 (aR S k))) 0 = some (isO (aG S) ((uS g 0 (aR S k)) 0)) := p_isOne hr.1.mg hG (s := 0) (by omega)
      rw [uS_self] at a2
      rw [i32_10, if_neg (i_nle (by omega) (by omega)), a1, e_bs, a2, e_bs, bits]
      cases hb : isO (aG S) (aR S k) with
      | false =>
        rw [if_neg (by decide), e_bd, e_bs, if_pos (by decide)]
        unfold j_X11_notOnes_30
        rw [show i32 k + 1 = i32 (k + 1) from by rw [i32_1, i32_add]]
      | true =>
        rw [if_pos rfl, e_bs, if_neg (by decide)]
        unfold j_X11_notOnes_30
        rw [show i32 k + 1 = i32 (k + 1) from by rw [i32_1, i32_add]]
noncomputable def ctb (G : GD) (v : Nat) : Bool := @decide (Ctl G v) (Classical.propDecidable _)
theorem ctb_iff {v : Nat} {b : Bool} (h : b = true ↔ Ctl G v) : b = ctb G v := bool_iff h ⟨fun q => @of_decide_eq_true _ (Classical.propDecidable _) q, fun q => @decide_eq_true _ (Classical.propDecidable _) q⟩
theorem c_centrals (hG : GOK G) (h : CG σ 2 G) : f_X10_centralGenerators σ = some (bits (ctb G) (gn G)) := by
  have hn := hG.2.1
  unfold f_X10_centralGenerators
  refine loop_up (body := fun (z2 : (Int32 × Int32)) => l_X10_centralGenerators_4 σ z2.1 z2.2) (fun k => (bits (ctb G) k, i32 k)) 0 (gn G) _ (by omega) (fun k _ hk => ?_) ?_
  · show l_X10_centralGenerators_4 σ _ (i32 k) = _
    unfold l_X10_centralGenerators_4
    obtain ⟨b, e, hb⟩ := c_isCentral hG h hk
    rw [e_gF, h.1, if_neg (i_nle hk (by omega)), e, e_bs, bits, ctb_iff hb]
    cases ctb G k with
    | false =>
      rw [if_neg (by decide), e_bs, if_neg (by decide)]
      unfold j_X10_centralGenerators_38
      rw [show i32 k + 1 = i32 (k + 1) from by rw [i32_1, i32_add]]
    | true =>
      rw [if_pos rfl, e_bd, e_bs, if_pos rfl]
      unfold j_X10_centralGenerators_38
      rw [show i32 k + 1 = i32 (k + 1) from by rw [i32_1, i32_add]]
  · show l_X10_centralGenerators_4 σ _ (i32 (gn G)) = _
    unfold l_X10_centralGenerators_4
    rw [e_gF, h.1, if_pos (i_le (Nat.le_refl _) (by omega))]
/-- the reference's: one group or none -/
theorem r_centrals {S : AS} {c : Bool} {σ0 : Mem} (ok : OKS S) (hr : IRef S σ) (h9 : σ.1 306 9 = 1) (hL : Laid σ (aG S)) (hc : c = true ↔ Cons (aG S)) {f : SF} (hM0 : MG σ0 (aG S)) (e0 : f_X11_isConsistent σ0 = some (c, PS σ f)) : ∃ g, f_X11_centrals σ0 = some (if c = true then bits (ctb (aG S)) (gn (aG S)) else 0, PS σ g) := by
  have hG : GOK (aG S) := ok.1.1
  have hn : gn (aG S) ≤ 6 := hG.2.1
  have hn1 : 1 ≤ gn (aG S) := hG.1
  have again : ∀ g, f_X11_isConsistent (PS σ g) = some (c, PS σ g) := fun g => by
    have hLg : Laid (PS σ g) (aG S) := by
      obtain ⟨c', a1, a2, a3⟩ := hL
      refine ⟨c', a1, a2, fun k hk => ?_⟩
      unfold RT
      rw [PS_1, PS_2 (by omega)]
      exact a3 k hk
    obtain ⟨c', e, hc'⟩ := r_again (σ := PS σ g) h9 hLg
    rw [e, bool_iff hc' hc]
  unfold f_X11_centrals
  cases hcb : c with
  | false =>
    refine ⟨f, ?_⟩
    rw [if_neg (by decide)]
    refine loop_up (body := fun (z3 : (Mem × Int32 × Int32)) => l_X11_centrals_4 z3.1 z3.2.1 z3.2.2) (fun k => (σ0, 0, i32 k)) 0 0 _ (by omega) (fun k _ hk => by omega) ?_
    show l_X11_centrals_4 σ0 0 (i32 0) = _
    unfold l_X11_centrals_4
    rw [e_n hM0, e_bs, if_neg (i_nle (by omega) (by omega)), e0, e_bq, hcb, if_neg (by decide)]
  | true =>
    have hcons := hc.mp hcb
    have hJ := Cons.jac hG hcons
    rw [if_pos rfl]
    have hl := loop_inv (body := fun (z3 : (Mem × Int32 × Int32)) => l_X11_centrals_4 z3.1 z3.2.1 z3.2.2) (fun n z => ∃ k ρ, k ≤ gn (aG S) ∧ n = gn (aG S) - k ∧ z = (ρ, bits (ctb (aG S)) k, i32 k) ∧ MG ρ (aG S) ∧ (∃ g, f_X11_isConsistent ρ = some (c, PS σ g)) ∧ (k ≠ 0 → ∃ g, ρ = PS σ g)) (fun r => ∃ g, r = (bits (ctb (aG S)) (gn (aG S)), PS σ g)) ?_ (gn (aG S)) (σ0, 0, 0) ⟨0, σ0, by omega, rfl, rfl, hM0, ⟨f, e0⟩, fun q => absurd rfl q⟩
    · obtain ⟨r, e, g, rfl⟩ := hl
      exact ⟨g, e⟩
    · rintro n z ⟨k, ρ, hk, rfl, rfl, hMr, ⟨g, eg⟩, hz⟩
      by_cases hkn : k = gn (aG S)
      · right
        subst hkn
        obtain ⟨g, rfl⟩ := hz (by omega)
        refine ⟨_, ?_, g, rfl⟩
        show l_X11_centrals_4 (PS σ g) _ (i32 (gn (aG S))) = _
        unfold l_X11_centrals_4
        rw [e_n (show MG (PS σ g) (aG S) from PS_MG hr.1.mg), e_bs, if_pos (i_le (Nat.le_refl _) (by omega))]
      · left
        obtain ⟨b, g2, e2, hb⟩ := r_centralLetter (σ := σ) (f := g) hG hJ hr.1.mg hr.2.2.2.2.2.2.2 (v := k) (by omega)
        refine ⟨(PS σ g2, bits (ctb (aG S)) (k + 1), i32 (k + 1)), gn (aG S) - (k + 1), by omega, ?_, k + 1, _, by omega, rfl, rfl, PS_MG hr.1.mg, ⟨g2, again g2⟩, fun _ => ⟨g2, rfl⟩⟩
        show l_X11_centrals_4 ρ _ (i32 k) = _
        unfold l_X11_centrals_4
        rw [e_n hMr, e_bs, if_neg (i_nle (by omega) (by omega)), eg, e_bq, hcb, if_pos rfl, e2, e_bq, bits, ctb_iff hb]
        cases ctb (aG S) k with
        | false =>
          rw [if_neg (by decide), e_bs, if_neg (by decide)]
          unfold j_X11_centrals_33
          rw [show i32 k + 1 = i32 (k + 1) from by rw [i32_1, i32_add]]
        | true =>
          rw [if_pos rfl, e_bd, e_bs, if_pos rfl]
          unfold j_X11_centrals_33
          rw [show i32 k + 1 = i32 (k + 1) from by rw [i32_1, i32_add]]
theorem gt_flat {c : Nat} {S : AS} (h : ICls c S σ) {τ : Mem} (hr : IRef S τ) : ∀ p, p < 216 → τ.1 307 (7 + p) = σ.1 4 p := by
  intro p hp
  have e1 := h.1.1.2.2 (p / 36) (p / 6 % 6) (p % 6) (by omega) (by omega) (by omega)
  have e2 := hr.1.2.2.1 (p / 36) (p / 6 % 6) (p % 6) (by omega) (by omega) (by omega)
  have i1 : (p / 36 * 6 + p / 6 % 6) * 6 + p % 6 = p := by omega
  have i2 : 0 + (7 + 36 * (p / 36) + 6 * (p / 6 % 6) + p % 6) = 7 + p := by omega
  rw [i1] at e1
  rw [i2] at e2
  rw [e2]
  exact e1.symm
theorem ok_32 : Ok_32 II := by
  intro c σ x hc ⟨S, ok, h, hr⟩
  have hG : GOK (aG S) := ok.1.1
  have hn : gn (aG S) ≤ 6 := hG.2.1
  obtain ⟨b, hb, hB⟩ := c_cons h
  have f0 : LO σ (wI σ 306 0 0) := LO.row (by omega)
  have hr0 := hr.told
  unfold f_X10_look f_X11_look
  rw [e_pF]
  by_cases h0 : x = 0
  · rw [if_pos h0, if_pos h0, e_gF, h.1.1.1, e_n hr0.1.mg, e_bs]
    exact ⟨_, _, rfl, rfl, fin_q ok h hr0 f0⟩
  rw [if_neg h0, if_neg h0]
  by_cases h1 : x = 1
  · rw [if_pos h1, if_pos h1, c_top2 hG h.1.1, e_bs, r_level hG hr0.1.mg, e_bs]
    exact ⟨_, _, rfl, rfl, fin_q ok h hr0 f0⟩
  rw [if_neg h1, if_neg h1]
  by_cases h2 : x = 2
  · obtain ⟨b3, τ, e3, q3, l3, _, _, hc3⟩ := r_cons hr0 ok
    have : b3 = b := bool_iff hc3 hB
    subst this
    rw [if_pos h2, if_pos h2, e_gZ hb, e3, e_bq]
    unfold f_X10_bit
    cases b3 with
    | false => exact ⟨_, _, rfl, rfl, fin_q ok h q3 (f0.trans l3)⟩
    | true => exact ⟨_, _, rfl, rfl, fin_q ok h q3 (f0.trans l3)⟩
  rw [if_neg h2, if_neg h2]
  by_cases h3 : x = 3
  · rw [if_pos h3, if_pos h3, c_tails (f := fun p => σ.1 4 p) (fun p _ => rfl), e_bs, r_tailsAll (f := fun p => σ.1 4 p) (fun p hp => gt_flat h hr0 p hp), e_bs]
    exact ⟨_, _, rfl, rfl, fin_q ok h hr0 f0⟩
  rw [if_neg h3, if_neg h3]
  by_cases h4 : x = 4
  · rw [if_pos h4, if_pos h4]
    obtain ⟨τ, e, f, h9, hl⟩ := r_lays hr0.1.mg hG hr0.2.2.2.2.2.2.2 hr0.2.2.2.2.2.2.1
    have q3 : IRef S τ := hr0.fly f ⟨true, h9, fun _ => hl⟩
    obtain ⟨c2, hc2, hC2, ht⟩ := hl
    have : c2 = b := bool_iff hC2 hB
    subst this
    have hf : ∀ k, k < 6 → σ.1 (48 + 4 * k) 0 = i32 (if c2 = true ∧ k < gn (aG S) then Tk (aG S) k else []).length := by
      intro k hk
      cases hbt : c2 with
      | true =>
        have hct := c_ct h (hB.mp hbt) k hk
        by_cases hkn : k < gn (aG S)
        · rw [if_pos hkn] at hct
          rw [if_pos ⟨rfl, hkn⟩]; exact hct.1
        · rw [if_neg hkn] at hct
          rw [if_neg (fun q => hkn q.2)]; exact hct.1
      | false =>
        obtain ⟨c3, k1, k2, k3, k4⟩ := h.2.2.2.2.2.2.2.1
        have : c3 = c2 := bool_iff k2 hB
        subst this
        rw [if_neg (fun q => absurd q.1 (by decide))]
        exact (k4 hbt k hk).1
    unfold f_X11_termsOfAll
    rw [c_count4 hf, e_bs, e, e_bs, r_countAll (fun k hk => (ht k hk).1), e_bq]
    exact ⟨_, _, rfl, rfl, fin_q ok h q3 (f0.trans f.lo)⟩
  rw [if_neg h4, if_neg h4]
  by_cases h5 : x = 5
  · obtain ⟨⟨f, hf⟩, hI, hL, hM, hm0, hRB⟩ := at_slots hr0
    obtain ⟨g, e⟩ := r_notOnes (f := f) hr0 ok
    rw [hf] at e
    rw [if_pos h5, if_pos h5, c_notOnes h ok, e_bs, e, e_bq]
    exact ⟨_, _, rfl, rfl, fin_q ok h (hI g) (f0.trans (hL g))⟩
  rw [if_neg h5, if_neg h5]
  by_cases h6 : x = 6
  · rw [if_pos h6, if_pos h6, e_gF, e_gF, h.2.2.1.1, hr0.2.2.1.1]
    exact ⟨_, _, rfl, rfl, fin_q ok h hr0 f0⟩
  rw [if_neg h6, if_neg h6]
  by_cases h7 : x = 7
  · rw [if_pos h7, if_pos h7, e_gF, e_gF, h.2.2.2.2.1.1, hr0.2.2.2.2.1.1]
    exact ⟨_, _, rfl, rfl, fin_q ok h hr0 f0⟩
  rw [if_neg h7, if_neg h7]
  by_cases h8 : x = 8
  · have e8 : gI σ 16 0 (fun (v19 : Int32) => some v19) = some (aT S).1 := (e_gI (k := 0) ln_16 (by omega) (by omega)).trans (by rw [h.2.1.1])
    rw [if_pos h8, if_pos h8, e8, e_gF, hr0.2.1.1]
    exact ⟨_, _, rfl, rfl, fin_q ok h hr0 f0⟩
  rw [if_neg h8, if_neg h8]
  by_cases h9 : x = 9
  · obtain ⟨b3, τ, e3, q3, l3, k9, hl, hc3⟩ := r_cons hr0 ok
    have : b3 = b := bool_iff hc3 hB
    subst this
    obtain ⟨⟨f, hf⟩, hI, hL, hM, hm0, hRB⟩ := at_slots q3
    obtain ⟨g, e⟩ := r_centrals (σ := τ) (σ0 := wI σ 306 0 0) ok q3 k9 hl hB (f := f) hr0.1.mg (by rw [hf]; exact e3)
    rw [if_pos h9, if_pos h9, e_gZ hb, e, e_bq]
    cases b3 with
    | false => exact ⟨_, _, rfl, rfl, fin_q ok h (hI g) (f0.trans (l3.trans (hL g)))⟩
    | true =>
      rw [if_pos rfl, if_pos rfl, c_centrals hG h.1.1, e_bs]
      exact ⟨_, _, rfl, rfl, fin_q ok h (hI g) (f0.trans (l3.trans (hL g)))⟩
  rw [if_neg h9, if_neg h9]
  exact ⟨_, _, rfl, rfl, fin_q ok h hr0 f0⟩
end LOK
