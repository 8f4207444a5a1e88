/-! the class's groups: rules made, acts undone -/
section CGR
variable {σ : Mem} {G : GD}
theorem CG.inj {a : Nat} {G' : GD} (hG : GOK G) (hG' : GOK G') (h : CG σ a G) (h' : CG σ a G') : G = G' := by
  have n1 := hG.2.1
  have n2 := hG'.2.1
  have en : gn G = gn G' := by
    have := h.1.symm.trans h'.1
    rw [i32_eq (by omega) (by omega)] at this
    exact this
  have ew : gw G = gw G' := funext (fun i => by
    by_cases hi : i < gn G
    · have := (h.2.1 i (by omega)).symm.trans (h'.2.1 i (by omega))
      have b1 := (hG.2.2.1 i hi).2
      have b2 := (hG'.2.2.1 i (by omega)).2
      rw [i32_eq (by omega) (by omega)] at this
      exact this
    · rw [hG.2.2.2.2.1 i (by omega), hG'.2.2.2.2.1 i (by omega)])
  have et : gt G = gt G' := by
    funext j i k
    by_cases hk : i < j ∧ j < k ∧ k < gn G
    · have := (h.2.2 j i k (by omega) (by omega) (by omega)).symm.trans (h'.2.2 j i k (by omega) (by omega) (by omega))
      have b1 := hG.2.2.2.2.2.1 j i k
      have b2 := hG'.2.2.2.2.2.1 j i k
      rw [i32_eq (by omega) (by omega)] at this
      exact this
    · have z1 : gt G j i k = 0 := Classical.byContradiction (fun z => hk (by have := hG.2.2.2.2.2.2 j i k z; omega))
      have z2 : gt G' j i k = 0 := Classical.byContradiction (fun z => hk (by have := hG'.2.2.2.2.2.2 j i k z; omega))
      rw [z1, z2]
  exact Prod.ext en (Prod.ext ew et)
/-- all but the registers' group, and the law -/
def CRest (S : AS) (σ : Mem) : Prop := CTd σ 16 (aT S) ∧ CActs σ (aA S) ∧ CImg σ (aI S) ∧ CTape σ (aP S) ∧ (σ.1 144 0 = (aF S).1 ∧ σ.1 144 1 = (aF S).2)
theorem ICls.mk {c : Nat} {S : AS} (h1 : CB σ 1 (aX S)) (h2 : CRest S σ) (h3 : CLaw c σ (aG S)) : ICls c S σ := ⟨h1, h2.1, h2.2.1, h2.2.2.1, h2.2.2.2.1, h2.2.2.2.2, h3⟩
theorem ICls.rest {c : Nat} {S : AS} (h : ICls c S σ) : CRest S σ := ⟨h.2.1, h.2.2.1, h.2.2.2.1, h.2.2.2.2.1, h.2.2.2.2.2.1⟩
theorem ICls.law {c : Nat} {S : AS} (h : ICls c S σ) : CLaw c σ (aG S) := h.2.2.2.2.2.2
theorem CRest.eqs {S : AS} {τ : Mem} (h : CRest S σ) (f : ∀ x, x = 0 ∨ (16 ≤ x ∧ x ≤ 34) ∨ (178 ≤ x ∧ x < 306) → τ.1 x = σ.1 x ∧ τ.2 x = σ.2 x) (f1 : ∀ c, c < 2 → τ.1 144 c = σ.1 144 c) : CRest S τ := by
  obtain ⟨h2, h3, h4, h5, h6⟩ := h
  have f0 := (f 0 (by omega)).1
  exact ⟨h2.eqs (f 16 (by omega)).1, h3.eqs f0 (fun x a b => (f x (by omega)).1) (fun x a b => (f x (by omega)).2), ⟨by rw [f0]; exact h4.1, fun y hy => ⟨(h4.2 y hy).1.eqs (fun x a b => (f x (by omega)).1) (fun x a b => (f x (by omega)).2), (h4.2 y hy).2.eqs (f 32 (by omega)).1⟩⟩, ⟨by rw [f0]; exact h5.1, fun p x hp => by rw [(f 34 (by omega)).1]; exact h5.2 p x hp⟩, by rw [f1 0 (by omega)]; exact h6.1, by rw [f1 1 (by omega)]; exact h6.2⟩
theorem c_followed {c : Nat} {G' : GD} (hc : c < 520) (hG : GOK G) (hG' : GOK G') (hl : CLaw c σ G) (h : CG σ 2 G') : ∃ τ, f_X4_follow σ 2 = some τ ∧ FWo σ τ ∧ CLaw (c + 1) τ G' := by
  obtain ⟨m, l, ed, bd, e1, e2, e3, e4, e5⟩ := hl
  obtain ⟨τ, e, f, m', l', hed⟩ := c_follow hG' h e1 (fun z => by rw [CG.inj hG' hG z m]; exact l)
  refine ⟨τ, e, f, m', l', ?_⟩
  rcases hed with rfl | hed
  · have : G' = G := CG.inj hG' hG m' m
    subst this
    exact ⟨ed, bd, e1, e2, e3, by omega, e5⟩
  · exact ⟨ed + 1, bd, hed, by rw [(f 128 (by omega)).1]; exact e2, by omega, by omega, fun z => by omega⟩
/-- an act kept, registers one -/
theorem c_beginGroup {c : Nat} {S : AS} (h : ICls c S σ) (ok : OKS S) : ∃ τ, f_X10_beginGroupAct σ = some τ ∧ CRest (aX S, aT S, psh (aX S) (aA S), aI S, aP S, aF S) τ ∧ CLaw c τ (aG S) ∧ CG τ 2 (aG S) ∧ (∀ r i, r < 10 → i < 6 → τ.2 (6 + r) i = 0) ∧ HI σ τ := by
  unfold f_X10_beginGroupAct
  obtain ⟨σ1, e1, a1, f1⟩ := c_beginAct h.1 h.2.2.1 ok.2.2.1.1
  obtain ⟨σ2, e2, o2, v2⟩ := c_clearRegs (σ := σ1) (X := aX S)
  rw [e1, e_bs, e2, e_bs]
  obtain ⟨h2, h3, h4, h5, h6⟩ := h.rest
  have g : ∀ x, x ≠ 0 → x < 178 ∨ 305 < x → σ2.1 x = σ.1 x := fun x h0 hx => by rw [o2.1]; exact f1.1 x h0 hx
  have g2 : ∀ x, (x < 178 ∨ 305 < x) → ¬ (6 ≤ x ∧ x ≤ 15) → σ2.2 x = σ.2 x := fun x hx hn => by rw [o2.2 x hn]; exact f1.2.1 x hx
  have g0 : ∀ c, c ≠ 4 → c ≠ 5 → σ2.1 0 c = σ.1 0 c := fun c c1 c2 => by rw [o2.1]; exact f1.2.2 c c1 c2
  refine ⟨σ2, rfl, ⟨h2.eqs (g 16 (by omega) (by omega)), a1.eqs (by rw [o2.1]) (fun x b1 b2 => by rw [o2.1]) (fun x b1 b2 => o2.2 x (by omega)), ⟨by rw [g0 2 (by omega) (by omega)]; exact h4.1, fun y hy => ⟨(h4.2 y hy).1.eqs (fun x a b => g x (by omega) (by omega)) (fun x a b => g2 x (by omega) (by omega)), (h4.2 y hy).2.eqs (g 32 (by omega) (by omega))⟩⟩, ⟨by rw [g0 7 (by omega) (by omega)]; exact h5.1, fun p x hp => by rw [g 34 (by omega) (by omega)]; exact h5.2 p x hp⟩, by rw [g 144 (by omega) (by omega)]; exact h6.1, by rw [g 144 (by omega) (by omega)]; exact h6.2⟩, h.law.eqs (fun c _ => by rw [g 40 (by omega) (by omega)]) (fun x hx => g x (by omega) (by omega)) (fun x hx => g2 x (by omega) (by omega)), ?_, v2, fun x hx => ⟨g x (by omega) (by omega), g2 x (by omega) (by omega)⟩⟩
  have := h.1.1
  unfold CG
  rw [g 2 (by omega) (by omega), g (2 + 1) (by omega) (by omega), g (2 + 2) (by omega) (by omega)]
  exact this
/-- the rules alone -/
def FRu (σ τ : Mem) : Prop := τ.2 = σ.2 ∧ (∀ x, x ≠ 2 → x ≠ 3 → x ≠ 4 → τ.1 x = σ.1 x)
/-- the end of a call that makes a group -/
theorem c_newGroup {c : Nat} {S : AS} {G' : GD} {τ : Mem} (hc : c < 520) (hG : GOK (aG S)) (hG' : GOK G') (hr : CRest S σ) (hl : CLaw c σ (aG S)) (hz : ∀ r i, r < 10 → i < 6 → σ.2 (6 + r) i = 0) (f : FRu σ τ) (hm : CG τ 2 G') : ∃ υ, f_X4_follow τ 2 = some υ ∧ ICls (c + 1) ((G', fun _ _ => 0), aT S, aA S, aI S, aP S, aF S) υ ∧ HI σ υ := by
  have hl' : CLaw c τ (aG S) := hl.eqs (fun c _ => by rw [f.2 40 (by omega) (by omega) (by omega)]) (fun x hx => f.2 x (by omega) (by omega) (by omega)) (fun x hx => by rw [f.1])
  obtain ⟨υ, e, w, l⟩ := c_followed hc hG hG' hl' hm
  refine ⟨υ, e, ICls.mk ⟨?_, fun r i hr hi => ?_⟩ (hr.eqs (fun x hx => ⟨by rw [(w x (by omega)).1, f.2 x (by omega) (by omega) (by omega)], by rw [(w x (by omega)).2, f.1]⟩) (fun c _ => by rw [(w 144 (by omega)).1, f.2 144 (by omega) (by omega) (by omega)])) l, fun x hx => ⟨by rw [(w x (by omega)).1, f.2 x (by omega) (by omega) (by omega)], by rw [(w x (by omega)).2, f.1]⟩⟩
  · show CG υ 2 G'
    unfold CG
    rw [(w 2 (by omega)).1, (w (2 + 1) (by omega)).1, (w (2 + 2) (by omega)).1]
    exact hm
  · rw [(w _ (by omega)).2, f.1]
    have := hz r i hr hi
    rw [show 1 + 5 + r = 6 + r by omega, this]; rfl
/-! numbers of weights -/
def dgt (w i : Nat) : Nat := w / 4 ^ i % 4
def ah (w : Nat) : Nat → Nat
  | 0 => 1
  | i + 1 => dgt w i
def OKW (n w : Nat) : Prop := 1 ≤ n ∧ n ≤ 6 ∧ w < 4 ^ n ∧ ∀ i, i < n → ah w i ≤ dgt w i
theorem dgt_lt {w i : Nat} : dgt w i < 4 := Nat.mod_lt _ (by omega)
theorem i_dgt {w i : Nat} (hw : w < 2 ^ 31) (hi : i < 6) : (i32 w >>> ((2 * i32 i) &&& 31)) &&& 3 = i32 (dgt w i) := by
  have hs : ∀ i, i < 6 → (((2 : Int32) * i32 i &&& 31).toBitVec.smod 32).toNat = 2 * i := by
    have key : (List.range 6).all (fun i => decide ((((2 : Int32) * i32 i &&& 31).toBitVec.smod 32).toNat = 2 * i)) = true := by decide
    intro i hi
    exact of_decide_eq_true (List.all_eq_true.mp key i (List.mem_range.mpr hi))
  have h1 : i32 w >>> ((2 * i32 i) &&& 31) = i32 (w / 2 ^ (2 * i)) := pk_shrN (n := w) hw _ _ (hs i hi)
  have h2 : ∀ a, i32 a &&& 3 = i32 (a % 4) := fun a => i_andmask a 2
  rw [h1, h2, Nat.pow_mul]
  rfl
def GW (n w : Nat) : GD := (n, fun i => dgt w i, fun _ _ _ => 0)
theorem dgt_hi {w n i : Nat} (hw : w < 4 ^ n) (hi : n ≤ i) : dgt w i = 0 := by
  unfold dgt
  rw [Nat.div_eq_of_lt (Nat.lt_of_lt_of_le hw (Nat.pow_le_pow_right (by omega) hi))]
theorem GW_ok {n w : Nat} (h : OKW n w) : GOK (GW n w) := by
  obtain ⟨h1, h6, hw, hd⟩ := h
  have pos : ∀ i, i < n → 1 ≤ dgt w i := by
    intro i
    induction i with
    | zero => intro hi; exact hd 0 hi
    | succ i ih =>
      intro hi
      have a1 := ih (by omega)
      have a2 : dgt w i ≤ dgt w (i + 1) := hd (i + 1) hi
      omega
  have asc : ∀ d i, i + d < n → dgt w i ≤ dgt w (i + d) := by
    intro d
    induction d with
    | zero => intro i _; exact Nat.le_refl _
    | succ d ih =>
      intro i hi
      have a1 := ih i (by omega)
      have a2 : dgt w (i + d) ≤ dgt w (i + d + 1) := hd (i + d + 1) (by omega)
      rw [show i + (d + 1) = i + d + 1 by omega]
      omega
  refine ⟨h1, h6, fun i hi => ⟨pos i hi, ?_⟩, fun i j hij hj => ?_, fun i hi => dgt_hi hw hi, fun _ _ _ => Nat.zero_le _, fun j i k hk => absurd rfl hk⟩
  · have := dgt_lt (w := w) (i := i)
    show dgt w i ≤ 3
    omega
  · obtain ⟨d, rfl⟩ : ∃ d, j = i + d := ⟨j - i, by omega⟩
    exact asc d i hj
theorem c_areWeights {x y : Int32} : ∃ b, f_X6_areWeights σ x y = some b ∧ (b = true ↔ ∃ n w, x = i32 n ∧ y = i32 w ∧ OKW n w) := by
  unfold f_X6_areWeights
  have nope : (¬ (1 ≤ x.toInt ∧ x.toInt ≤ 6 ∧ 0 ≤ y.toInt)) → ¬ ∃ n w, x = i32 n ∧ y = i32 w ∧ OKW n w := by
    rintro hno ⟨n, w, rfl, rfl, h1, h6, hw, _⟩
    have h4 : 4 ^ n ≤ 4 ^ 6 := Nat.pow_le_pow_right (by omega) h6
    rw [i32_toInt (by omega), i32_toInt (by omega)] at hno
    omega
  have no : ∀ {P : Prop}, ¬ P → ∃ b, (some false : Option Bool) = some b ∧ (b = true ↔ P) := fun hP => ⟨false, rfl, ⟨fun z => absurd z (by decide), fun z => absurd z hP⟩⟩
  by_cases h1 : x < 1
  · rw [if_pos h1]
    have := (lt32 (k := 1) (by omega)).mp h1
    exact no (nope (by omega))
  · have h1' : ¬ x.toInt < 1 := fun z => h1 ((lt32 (k := 1) (by omega)).mpr z)
    rw [if_neg h1]
    by_cases h2 : 6 < x
    · rw [if_pos h2]
      have := (gt32 (k := 6) (by omega)).mp h2
      exact no (nope (by omega))
    · have h2' : ¬ (6 : Int) < x.toInt := fun z => h2 ((gt32 (k := 6) (by omega)).mpr z)
      rw [if_neg h2]
      by_cases h3 : y < 0
      · rw [if_pos h3]
        have := (lt32 (k := 0) (by omega)).mp h3
        exact no (nope (by omega))
      · have h3' : ¬ y.toInt < 0 := fun z => h3 ((lt32 (k := 0) (by omega)).mpr z)
        rw [if_neg h3]
        have hx := i32_of (x := x) (by omega)
        have hy := i32_of (x := y) (by omega)
        have hyl := Int32.toInt_lt y
        have hn : x.toInt.toNat ≤ 6 := by omega
        have hn1 : 1 ≤ x.toInt.toNat := by omega
        have hw : y.toInt.toNat < 2 ^ 31 := by omega
        generalize x.toInt.toNat = n at hx hn hn1
        generalize y.toInt.toNat = w at hy hw
        subst hx
        subst hy
        have hs : ∀ n, n ≤ 6 → ((1 : Int32) <<< ((2 * i32 n) &&& 31)) = i32 (4 ^ n) := by
          have key : (List.range 7).all (fun n => decide (((1 : Int32) <<< ((2 * i32 n) &&& 31)) = i32 (4 ^ n))) = true := by decide
          intro n hn
          exact of_decide_eq_true (List.all_eq_true.mp key n (List.mem_range.mpr (by omega)))
        have h4n : 4 ^ n ≤ 4 ^ 6 := Nat.pow_le_pow_right (by omega) hn
        have uniq : (∃ n' w', i32 n = i32 n' ∧ i32 w = i32 w' ∧ OKW n' w') ↔ OKW n w := by
          constructor
          · rintro ⟨n', w', e1, e2, ok⟩
            have h4 : 4 ^ n' ≤ 4 ^ 6 := Nat.pow_le_pow_right (by omega) ok.2.1
            have a1 := ok.2.2.1
            have a2 := ok.2.1
            rw [i32_eq (by omega) (by omega)] at e1 e2
            rw [e1, e2]; exact ok
          · exact fun ok => ⟨n, w, rfl, rfl, ok⟩
        rw [hs n hn]
        by_cases h5 : w < 4 ^ n
        · rw [if_pos (i_lt h5 (by omega))]
          have hl := loop_inv (body := fun (z2 : (Int32 × Int32)) => l_X6_areWeights_30 (i32 n) (i32 w) z2.1 z2.2) (fun m z => ∃ i, i ≤ n ∧ m = n - i ∧ z = (i32 (ah w i), i32 i) ∧ ∀ p, p < i → ah w p ≤ dgt w p) (fun b => b = true ↔ OKW n w) ?_ n (1, 0) ⟨0, by omega, rfl, rfl, fun p hp => absurd hp (Nat.not_lt_zero _)⟩
          · obtain ⟨b, e, hb⟩ := hl
            exact ⟨b, e, hb.trans uniq.symm⟩
          · rintro m z ⟨i, hi, rfl, rfl, hv⟩
            have hah : ah w i < 4 := by
              cases i with
              | zero => show 1 < 4; omega
              | succ i => exact dgt_lt
            have hdg := dgt_lt (w := w) (i := i)
            by_cases hin : i = n
            · right
              subst hin
              refine ⟨true, ?_, ⟨fun _ => ⟨hn1, hn, h5, hv⟩, fun _ => rfl⟩⟩
              show l_X6_areWeights_30 _ _ _ (i32 i) = _
              unfold l_X6_areWeights_30
              rw [if_pos (i_le (Nat.le_refl _) (by omega))]
            · by_cases hq : ah w i ≤ dgt w i
              · left
                refine ⟨(i32 (ah w (i + 1)), i32 (i + 1)), n - (i + 1), by omega, ?_, i + 1, by omega, rfl, rfl, fun p hp => ?_⟩
                · show l_X6_areWeights_30 (i32 n) (i32 w) (i32 (ah w i)) (i32 i) = _
                  unfold l_X6_areWeights_30
                  rw [if_neg (i_nle (by omega) (by omega)), i_dgt hw (by omega), e_bd, if_pos (i_le hq (by omega)), i32_1, i32_add]
                  rfl
                · by_cases h6 : p = i
                  · rw [h6]; exact hq
                  · exact hv p (by omega)
              · right
                refine ⟨false, ?_, ⟨fun z => absurd z (by decide), fun z => absurd (z.2.2.2 i (by omega)) hq⟩⟩
                show l_X6_areWeights_30 (i32 n) (i32 w) (i32 (ah w i)) (i32 i) = _
                unfold l_X6_areWeights_30
                rw [if_neg (i_nle (by omega) (by omega)), i_dgt hw (by omega), e_bd, if_neg (i_nle (by omega) (by omega))]
        · rw [if_neg (i_nlt (by omega) (by omega))]
          exact no (fun z => h5 (uniq.mp z).2.2.1)
/-- rules made anew -/
theorem c_reset {n w : Nat} (hn : n ≤ 6) (hw : w < 2 ^ 31) : ∃ τ, f_X6_reset σ 2 (i32 n) (i32 w) = some τ ∧ FRu σ τ ∧ CG τ 2 (GW n w) := by
  unfold f_X6_reset
  rw [e_pF]
  have hl := loop_inv (body := fun (z5 : (Mem × Int32)) => l_X6_reset_7 2 (i32 w) z5.1 z5.2) (fun m z => ∃ i τ, i ≤ 6 ∧ m = 6 - i ∧ z = (τ, i32 i) ∧ τ.2 = σ.2 ∧ (∀ x, x ≠ 2 → x ≠ 3 → τ.1 x = σ.1 x) ∧ τ.1 2 0 = i32 n ∧ ∀ p, p < i → τ.1 3 p = i32 (dgt w p)) (fun τ => τ.2 = σ.2 ∧ (∀ x, x ≠ 2 → x ≠ 3 → τ.1 x = σ.1 x) ∧ τ.1 2 0 = i32 n ∧ ∀ p, p < 6 → τ.1 3 p = i32 (dgt w p)) ?_ 6 (wI σ 2 0 (i32 n), 0) ⟨0, _, by omega, rfl, rfl, rfl, fun x h1 h2 => by funext y; rw [wI_1, if_neg (fun z => h1 z.1)], by rw [wI_1, if_pos ⟨rfl, rfl⟩], fun p hp => absurd hp (Nat.not_lt_zero _)⟩
  · obtain ⟨τ, e, l1, i1, n1, v1⟩ := hl
    rw [e, e_bs]
    unfold j_X6_reset_32
    obtain ⟨υ, e2, o2, v2⟩ := fillI (σ := τ) (a := rf 2 2) (n := 216) (v := 0) (by rw [RR2_2.2.1]; exact ln_4) (by omega)
    rw [RR2_2.2.1] at e2 o2 v2
    rw [RR2_2.2.1, e2, e_bs]
    refine ⟨υ, rfl, ⟨o2.1.trans l1, fun x h1 h2 h3 => by rw [o2.2 x h3, i1 x h1 h2]⟩, ?_, fun i hi => ?_, fun j i k hj hi hk => ?_⟩
    · rw [o2.2 2 (by omega)]; exact n1
    · rw [o2.2 (2 + 1) (by omega)]; exact v1 i hi
    · exact v2 _ (by omega)
  · rintro m z ⟨i, τ, hi, rfl, rfl, l1, i1, n1, v1⟩
    by_cases hi6 : i = 6
    · right
      subst hi6
      refine ⟨τ, ?_, l1, i1, n1, v1⟩
      show l_X6_reset_7 2 (i32 w) τ (i32 6) = _
      unfold l_X6_reset_7
      rw [if_pos (by decide)]
    · left
      refine ⟨(wI τ 3 i (i32 (dgt w i)), i32 (i + 1)), 6 - (i + 1), by omega, ?_, i + 1, _, by omega, rfl, rfl, l1, fun x h1 h2 => by funext y; rw [wI_1, if_neg (fun z => h2 z.1), i1 x h1 h2], by rw [wI_1, if_neg (by omega)]; exact n1, fun p hp => ?_⟩
      · show l_X6_reset_7 2 (i32 w) τ (i32 i) = _
        unfold l_X6_reset_7
        rw [i32_6, if_neg (i_nle (by omega) (by omega)), RR2_2.1, i_dgt hw (by omega), e_pI ln_3 (by omega) (by omega), i32_1, i32_add]
      · rw [wI_1]
        by_cases h1 : p = i
        · rw [if_pos ⟨rfl, h1⟩, h1]
        · rw [if_neg (fun z => h1 z.2)]; exact v1 p (by omega)
/-- a tail put -/
def upT (G : GD) (j i k v : Nat) : GD := (gn G, gw G, fun a b c => if a = j ∧ b = i ∧ c = k then v else gt G a b c)
theorem upT_ok (hG : GOK G) {j i k v : Nat} (hv : v ≤ 3) (h : i < j ∧ j < k ∧ k < gn G) (hw : v = 0 ∨ gw G i + gw G j ≤ gw G k) : GOK (upT G j i k v) := by
  refine ⟨hG.1, hG.2.1, hG.2.2.1, hG.2.2.2.1, hG.2.2.2.2.1, fun a b c => ?_, fun a b c hne => ?_⟩
  · show (if a = j ∧ b = i ∧ c = k then v else gt G a b c) ≤ 3
    split
    · exact hv
    · exact hG.2.2.2.2.2.1 a b c
  · have hne' : (if a = j ∧ b = i ∧ c = k then v else gt G a b c) ≠ 0 := hne
    by_cases h1 : a = j ∧ b = i ∧ c = k
    · rw [if_pos h1] at hne'
      obtain ⟨rfl, rfl, rfl⟩ := h1
      exact ⟨h.1, h.2.1, h.2.2, hw.resolve_left hne'⟩
    · rw [if_neg h1] at hne'
      exact hG.2.2.2.2.2.2 a b c hne'
theorem c_write {j i k v : Nat} (hn : gn G ≤ 6) (h : CG σ 2 G) (hi : i < j) (hj : j < k) (hk : k < gn G) : ∃ τ, f_X6_write σ 2 (i32 j) (i32 i) (i32 k) (i32 v) = some τ ∧ FRu σ τ ∧ CG τ 2 (upT G j i k v) := by
  unfold f_X6_write
  have ht : f_X6_isTail σ 2 (i32 j) (i32 i) (i32 k) = some true := by
    unfold f_X6_isTail
    rw [if_neg (show ¬ i32 i < 0 from i_nlt (b := 0) (by omega) (by omega)), if_neg (i_nle hi (by omega)), if_neg (i_nle hj (by omega)), e_gF, h.1, if_neg (i_nle hk (by omega))]
    rfl
  rw [ht, e_bs, if_pos rfl, RR2_2.2.1, i32_6, i32_mul, i32_add, i32_mul, i32_add, e_pI ln_4 (by omega) (by omega)]
  refine ⟨_, rfl, ⟨rfl, fun x h1 h2 h3 => by funext y; rw [wI_1, if_neg (fun z => h3 z.1)]⟩, ?_, fun a ha => ?_, fun a b c ha hb hc => ?_⟩
  · rw [wI_1, if_neg (by omega)]; exact h.1
  · rw [wI_1, if_neg (by omega)]; exact h.2.1 a ha
  · rw [wI_1]
    show _ = i32 (if a = j ∧ b = i ∧ c = k then v else gt G a b c)
    by_cases h1 : a = j ∧ b = i ∧ c = k
    · rw [if_pos ⟨rfl, by rw [h1.1, h1.2.1, h1.2.2]⟩, if_pos h1]
    · rw [if_neg (by omega), if_neg h1]
      exact h.2.2 a b c ha hb hc
end CGR

