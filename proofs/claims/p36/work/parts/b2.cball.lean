/-! the class's balls -/
section CBA
variable {σ : Mem} {G : GD}
def Zb (G : GD) (x : Nat → Int) : Prop := ∀ k, gn G ≤ k → x k = 0
def CBl (σ : Mem) (M : List (Nat → Int)) : Prop := σ.1 128 6 = i32 M.length ∧ (∀ (q : Nat) (x : Nat → Int), M[q]? = some x → ∀ k, k < 6 → σ.2 130 (6 * q + k) = oi (x k)) ∧ HT (σ.1 131) M
theorem same6 {x y : Nat → Int} (hn : gn G ≤ 6) (hx : Zb G x) (hy : Zb G y) : areS G y x = true ↔ ∀ k, k < 6 → oi (y k) = oi (x k) := by
  rw [areS_iff]
  refine ⟨fun h k _ => ?_, fun h k hk => h k (by omega)⟩
  by_cases hk : k < gn G
  · exact h k hk
  · rw [hx k (by omega), hy k (by omega)]
theorem mxE_congr {x y : Nat → Int} : ∀ n, (∀ k, k < n → oi (y k) = oi (x k)) → mxE y n = mxE x n
  | 0, _ => rfl
  | n + 1, h => by
    show mxE y n * 31 + oi (y n) = mxE x n * 31 + oi (x n)
    rw [mxE_congr n (fun k hk => h k (by omega)), h n (by omega)]
theorem hsE_congr {x y : Nat → Int} (h : ∀ k, k < 6 → oi (y k) = oi (x k)) : hsE y = hsE x := by
  unfold hsE
  rw [mxE_congr 6 h]
theorem and4095 (y : Int32) : y &&& 4095 = i32 ((y &&& 4095).toNatClampNeg) ∧ (y &&& 4095).toNatClampNeg < 4096 := by
  have h := i_andmask y.toBitVec.toNat 12
  rw [← i32_ofbv] at h
  have h2 : y &&& 4095 = i32 (y.toBitVec.toNat % 4096) := h
  have h3 : y.toBitVec.toNat % 4096 < 4096 := Nat.mod_lt _ (by omega)
  rw [h2, i32_cl (by omega)]
  exact ⟨rfl, h3⟩
theorem hsE_lt (x : Nat → Int) : hsE x < 4096 := (and4095 _).2
theorem c_mix {a : Nat} {x : Nat → Int} (ha : ln a = 6) (hA : H6 σ a x) : loopO (fun (z10 : (Int64 × Int32)) => l_X1_slotOf_5 σ a z10.1 z10.2) (0, 0) = some (mxE x 6) := by
  refine loop_up (body := fun (z10 : (Int64 × Int32)) => l_X1_slotOf_5 σ a z10.1 z10.2) (fun k => (mxE x k, i32 k)) 0 6 _ (by omega) (fun k _ hk => ?_) ?_
  · show l_X1_slotOf_5 σ a (mxE x k) (i32 k) = _
    unfold l_X1_slotOf_5
    rw [i32_6, if_neg (i_nle hk (by omega)), e_gL ha hk (by omega), e_bd, hA k hk, i32_1, i32_add]
    rfl
  · show l_X1_slotOf_5 σ a (mxE x 6) (i32 6) = _
    unfold l_X1_slotOf_5
    rw [i32_6, if_pos (i_le (Nat.le_refl _) (by omega))]
theorem c_isAt {a q : Nat} {x y : Nat → Int} (hn : gn G ≤ 6) (ha : ln a = 6) (hA : H6 σ a x) (hq : q < 1001) (hy : ∀ k, k < 6 → σ.2 130 (6 * q + k) = oi (y k)) (zx : Zb G x) (zy : Zb G y) : f_X1_isAt σ (i32 q) a = some (areS G y x) := by
  unfold f_X1_isAt
  refine loop_all 6 (fun k => oi (y k) = oi (x k)) (fun k => inferInstance) (fun k hk => ?_) ?_ _ (same6 hn zx zy)
  · show l_X1_isAt_2 _ _ _ _ = _
    unfold l_X1_isAt_2
    rw [show i32 q * 6 = i32 (6 * q) from by rw [i32_6, i32_mul, Nat.mul_comm], i32_6, if_neg (i_nle hk (by omega)), i32_add, e_gL ln_130 (by omega) (by omega), e_gL ha hk (by omega), hA k hk, hy k hk, i32_1, i32_add]
    split <;> rfl
  · show l_X1_isAt_2 _ _ _ _ = _
    unfold l_X1_isAt_2
    rw [i32_6, if_pos (i_le (Nat.le_refl _) (by omega))]
theorem nzS_full {t : Nat → Nat} : ∀ n, (∀ p, p < n → t p ≠ 0) → nzS t n = n
  | 0, _ => rfl
  | n + 1, h => by
    show nzS t n + (if t n = 0 then 0 else 1) = n + 1
    rw [nzS_full n (fun p hp => h p (by omega)), if_neg (h n (by omega))]
theorem nzS_zero {t : Nat → Nat} : ∀ n, (∀ p, p < n → t p = 0) → nzS t n = 0
  | 0, _ => rfl
  | n + 1, h => by
    show nzS t n + (if t n = 0 then 0 else 1) = 0
    rw [nzS_zero n (fun p hp => h p (by omega)), if_pos (h n (by omega))]
theorem nzS_up {t : Nat → Nat} {p v : Nat} (h0 : t p = 0) (hv : v ≠ 0) : ∀ n, nzS (fun k => if k = p then v else t k) n = nzS t n + if p < n then 1 else 0
  | 0 => by rw [if_neg (Nat.not_lt_zero _)]; rfl
  | n + 1 => by
    show nzS _ n + (if (if n = p then v else t n) = 0 then 0 else 1) = nzS t n + (if t n = 0 then 0 else 1) + if p < n + 1 then 1 else 0
    rw [nzS_up h0 hv n]
    by_cases hp : n = p
    · subst hp
      rw [if_pos rfl, if_neg hv, h0, if_pos rfl, if_neg (Nat.lt_irrefl _), if_pos (Nat.lt_succ_self _)]
    · rw [if_neg hp]
      by_cases hpn : p < n
      · rw [if_pos hpn, if_pos (show p < n + 1 by omega)]; omega
      · rw [if_neg hpn, if_neg (show ¬ p < n + 1 by omega)]; omega
theorem around {h p : Nat} (hh : h < 4096) (hp : p < 4096) : ∃ e, e < 4096 ∧ (h + e) % 4096 = p := ⟨(p + 4096 - h) % 4096, by omega, by omega⟩
theorem c_slotOf {a : Nat} {x : Nat → Int} {M : List (Nat → Int)} (hn : gn G ≤ 6) (ha : ln a = 6) (hA : H6 σ a x) (hM : CBl σ M) (hl : M.length ≤ 1001) (hF : Far G M) (zM : ∀ y, y ∈ M → Zb G y) (zx : Zb G x) : ∃ p, p < 4096 ∧ f_X1_slotOf σ a = some (i32 p) ∧ ((∃ q, fnd G M x = q ∧ q < M.length ∧ σ.1 131 p = i32 (q + 1)) ∨ (fnd G M x = M.length ∧ σ.1 131 p = 0 ∧ ∃ d, d < 4096 ∧ p = (hsE x + d) % 4096 ∧ ∀ e, e < d → σ.1 131 ((hsE x + e) % 4096) ≠ 0)) := by
  obtain ⟨hm1, hm2, t, ht1, ht2, ht3⟩ := hM
  have hh := hsE_lt x
  unfold f_X1_slotOf
  rw [c_mix ha hA, e_bs]
  unfold j_X1_slotOf_29
  have h0 : (mxE x 6).toInt32 &&& 4095 = i32 (hsE x) := (and4095 _).1
  rw [e_bd, h0]
  have hl := loop_inv (body := fun (z4 : (Int32 × Int32)) => l_X1_slotOf_40 σ a z4.1 z4.2) (fun n z => ∃ d, d ≤ 4096 ∧ n = 4096 - d ∧ z = (i32 ((hsE x + d) % 4096), i32 d) ∧ ∀ e, e < d → t ((hsE x + e) % 4096) ≠ 0 ∧ ∀ y, M[t ((hsE x + e) % 4096) - 1]? = some y → areS G y x = false) (fun r => ∃ p, p < 4096 ∧ r = i32 p ∧ ((∃ q, fnd G M x = q ∧ q < M.length ∧ σ.1 131 p = i32 (q + 1)) ∨ (fnd G M x = M.length ∧ σ.1 131 p = 0 ∧ ∃ d, d < 4096 ∧ p = (hsE x + d) % 4096 ∧ ∀ e, e < d → σ.1 131 ((hsE x + e) % 4096) ≠ 0))) ?_ 4096 (i32 (hsE x), 0) ⟨0, by omega, rfl, by rw [Nat.add_zero, Nat.mod_eq_of_lt hh]; rfl, fun e he => absurd he (Nat.not_lt_zero _)⟩
  · obtain ⟨r, e, p, hp, rfl, hc⟩ := hl
    exact ⟨p, hp, e, hc⟩
  · rintro n z ⟨d, hd, rfl, rfl, hinv⟩
    have hd4 : d < 4096 := by
      refine Classical.byContradiction (fun q => ?_)
      have : nzS t 4096 = 4096 := nzS_full 4096 (fun p hp => by
        obtain ⟨e, he, rfl⟩ := around hh hp
        exact (hinv e (by omega)).1)
      rw [ht2] at this
      omega
    have hp : (hsE x + d) % 4096 < 4096 := Nat.mod_lt _ (by omega)
    have hs := ht1 _ hp
    have hbody : l_X1_slotOf_40 σ a (i32 ((hsE x + d) % 4096)) (i32 d) = if i32 (t ((hsE x + d) % 4096)) = 0 then some (Sum.inr (i32 ((hsE x + d) % 4096))) else ((f_X1_isAt σ (i32 (t ((hsE x + d) % 4096)) - 1) a).bind (fun (b7 : Bool) => if b7 then some (Sum.inr (i32 ((hsE x + d) % 4096))) else bd ((i32 ((hsE x + d) % 4096) + 1) &&& 4095) (fun (v8 : Int32) => some (Sum.inl (v8, i32 d + 1))))) := by
      unfold l_X1_slotOf_40
      rw [show (4096 : Int32) = i32 4096 from rfl, if_neg (i_nle hd4 (by omega)), e_gI ln_131 hp (by omega), e_gI ln_131 hp (by omega), hs.1]
    by_cases ht0 : t ((hsE x + d) % 4096) = 0
    · right
      refine ⟨i32 ((hsE x + d) % 4096), ?_, _, hp, rfl, Or.inr ⟨?_, by rw [hs.1, ht0]; rfl, d, hd4, rfl, fun e he => ?_⟩⟩
      · show l_X1_slotOf_40 σ a _ _ = _
        rw [hbody, ht0, if_pos (show i32 0 = 0 from rfl)]
      · have hle := fnd_le (G := G) (M := M) (x := x)
        refine Classical.byContradiction (fun q => ?_)
        obtain ⟨y, hy, hyx⟩ := fnd_hit (G := G) (M := M) (x := x) (by omega)
        obtain ⟨d', hd', e1, e2⟩ := ht3 _ y hy
        have hsy : hsE y = hsE x := hsE_congr ((same6 hn zx (zM y (List.mem_of_getElem? hy))).mp hyx)
        rw [hsy] at e1 e2
        rcases Nat.lt_trichotomy d' d with c | c | c
        · have := (hinv d' c).2 y (by rw [e1, Nat.add_sub_cancel]; exact hy)
          rw [hyx] at this
          cases this
        · subst c; omega
        · exact absurd ht0 (e2 d c)
      · have := ht1 ((hsE x + e) % 4096) (Nat.mod_lt _ (by omega))
        rw [this.1]
        exact i_ne0 (hinv e he).1 (by omega)
    · have hq : t ((hsE x + d) % 4096) - 1 < M.length := by omega
      have hget : M[t ((hsE x + d) % 4096) - 1]? = some M[t ((hsE x + d) % 4096) - 1] := List.getElem?_eq_getElem hq
      have hat := c_isAt (σ := σ) (G := G) (a := a) (q := t ((hsE x + d) % 4096) - 1) hn ha hA (by omega) (hm2 _ _ hget) zx (zM _ (List.getElem_mem hq))
      rw [i32_1, i32_sub (by omega), if_neg (i_ne0 ht0 (by omega)), hat, e_bs] at hbody
      cases hb : areS G M[t ((hsE x + d) % 4096) - 1] x with
      | true =>
        right
        refine ⟨i32 ((hsE x + d) % 4096), ?_, _, hp, rfl, Or.inl ⟨_, fnd_eq hF hget hb, hq, ?_⟩⟩
        · show l_X1_slotOf_40 σ a _ _ = _
          rw [hbody, hb, if_pos rfl]
        · rw [hs.1, show t ((hsE x + d) % 4096) - 1 + 1 = t ((hsE x + d) % 4096) by omega]
      | false =>
        left
        refine ⟨(i32 ((hsE x + (d + 1)) % 4096), i32 (d + 1)), 4096 - (d + 1), by omega, ?_, d + 1, by omega, rfl, rfl, fun e he => ?_⟩
        · show l_X1_slotOf_40 σ a _ _ = _
          rw [hbody, hb, if_neg (by decide), e_bd, i32_add, show (4095 : Int32) = i32 (2 ^ 12 - 1) from rfl, i_andmask, i32_add]
          have : ((hsE x + d) % 4096 + 1) % 2 ^ 12 = (hsE x + (d + 1)) % 4096 := by omega
          rw [this]
        · by_cases hed : e = d
          · subst hed
            refine ⟨ht0, fun y hy => ?_⟩
            rw [hget] at hy
            rw [← Option.some.inj hy]
            exact hb
          · exact hinv e (by omega)
/-- what the balls' finding changes -/
def FBa (σ τ : Mem) : Prop := (∀ x, x ≠ 128 → x ≠ 131 → τ.1 x = σ.1 x) ∧ (∀ c, c ≠ 6 → τ.1 128 c = σ.1 128 c) ∧ ∀ x, x ≠ 73 → x ≠ 130 → x ≠ 132 → x ≠ 133 → x ≠ 134 → τ.2 x = σ.2 x
theorem FBa.refl : FBa σ σ := ⟨fun _ _ _ => rfl, fun _ _ => rfl, fun _ _ _ _ _ _ => rfl⟩
theorem FBa.trans {τ υ : Mem} (h : FBa σ τ) (k : FBa τ υ) : FBa σ υ := ⟨fun x h1 h2 => (k.1 x h1 h2).trans (h.1 x h1 h2), fun c hc => (k.2.1 c hc).trans (h.2.1 c hc), fun x h1 h2 h3 h4 h5 => (k.2.2 x h1 h2 h3 h4 h5).trans (h.2.2 x h1 h2 h3 h4 h5)⟩
theorem OL.fba {P : Nat → Prop} {τ : Mem} (h : OL P σ τ) (hP : ∀ x, P x → x = 73 ∨ x = 132 ∨ x = 133 ∨ x = 134) : FBa σ τ := ⟨fun x _ _ => by rw [h.1], fun c _ => by rw [h.1], fun x h1 h2 h3 h4 h5 => h.2 x (fun q => by have := hP x q; omega)⟩
theorem CBl.ol {P : Nat → Prop} {τ : Mem} {M : List (Nat → Int)} (hM : CBl σ M) (h : OL P σ τ) (hP : ¬ P 130) : CBl τ M := by
  unfold CBl
  rw [h.1, h.2 130 hP]
  exact hM
theorem cpL_to {a b sp dp x y : Nat} : (cpL σ a b sp dp 6).2 x y = if x = b ∧ dp ≤ y ∧ y < dp + 6 then σ.2 a (sp + (y - dp)) else σ.2 x y := by
  show (if x = b then va_cpy (σ.2 a) (σ.2 b) sp dp 6 y else σ.2 x y) = _
  by_cases h1 : x = b
  · rw [if_pos h1]
    unfold va_cpy
    by_cases h2 : dp ≤ y ∧ y < dp + 6
    · rw [if_pos h2, if_pos ⟨h1, h2⟩]
    · rw [if_neg h2, if_neg (fun z => h2 z.2), h1]
  · rw [if_neg h1, if_neg (fun z => h1 z.1)]
theorem e_cLto {α : Type} {a b sp dp : Nat} {f : Mem → Option α} (hs : sp + 6 ≤ ln a) (hd : dp + 6 ≤ ln b) (h1 : sp < 2 ^ 31) (h2 : dp < 2 ^ 31) : cL σ a (i32 sp) b (i32 dp) 6 f = f (cpL σ a b sp dp 6) := by
  unfold cL
  have h6 : (6 : Int32).toNatClampNeg = 6 := rfl
  have n0 : ∀ k, k < 2 ^ 31 → ¬ i32 k < 0 := fun k hk => i_nlt (b := 0) (Nat.zero_le _) hk
  rw [h6, i32_cl h1, i32_cl h2, if_pos ⟨⟨n0 sp h1, n0 dp h2, by decide⟩, hs, hd⟩]
theorem c_keepMade {x : Nat → Int} {M : List (Nat → Int)} (hn : gn G ≤ 6) (hA : H6 σ 134 x) (hM : CBl σ M) (hl : M.length ≤ 1001) (hF : Far G M) (zM : ∀ y, y ∈ M → Zb G y) (zx : Zb G x) : ∃ τ, f_X1_keepMade σ = some τ ∧ CBl τ (addE G M x) ∧ FBa σ τ ∧ τ.2 132 = σ.2 132 := by
  obtain ⟨p, hp, e1, hc⟩ := c_slotOf hn ln_134 hA hM hl hF zM zx
  unfold f_X1_keepMade
  rw [e1, e_bs, e_gI ln_131 hp (by omega)]
  rcases hc with ⟨q, hq, hql, hs⟩ | ⟨hq, hs, d, hd, hpd, hbe⟩
  · rw [hs, if_neg (i_ne0 (by omega) (by omega))]
    refine ⟨σ, rfl, ?_, FBa.refl, rfl⟩
    have : M.any (fun y => areS G y x) = true := fnd_any.mp (by omega)
    unfold addE
    rw [if_pos this]
    exact hM
  · have hany : ¬ M.any (fun y => areS G y x) = true := fun z => by
      have := fnd_any.mpr z
      omega
    rw [hs, if_pos rfl, e_gF, hM.1, show (1000 : Int32) = i32 1000 from rfl]
    by_cases hlen : M.length ≤ 1000
    · have h6 : i32 M.length * 6 = i32 (6 * M.length) := by rw [i32_6, i32_mul, Nat.mul_comm]
      rw [if_neg (i_nlt (by omega) (by omega)), e_gF, hM.1, h6, i32_0, e_cLto (by rw [ln_134]; omega) (by rw [ln_130]; omega) (by omega) (by omega), e_gF]
      have g6 : (cpL σ 134 130 0 (6 * M.length) 6).1 128 6 = i32 M.length := hM.1
      rw [g6, i32_1, i32_add, e_pF, e_gF, wI_1, if_pos ⟨rfl, rfl⟩, e_pI ln_131 hp (by omega)]
      refine ⟨_, rfl, ⟨?_, fun q y hq k hk => ?_, ?_⟩, ⟨fun z h1 h2 => ?_, fun c hc => ?_, fun z _ h2 _ _ _ => ?_⟩, ?_⟩
      · unfold addE
        rw [if_neg hany, if_pos hlen, List.length_append, List.length_singleton, wI_1, if_neg (by omega), wI_1, if_pos ⟨rfl, rfl⟩]
      · unfold addE at hq
        rw [if_neg hany, if_pos hlen] at hq
        show (cpL σ 134 130 0 (6 * M.length) 6).2 130 (6 * q + k) = _
        rw [cpL_to]
        by_cases hqm : q < M.length
        · rw [List.getElem?_append_left hqm] at hq
          rw [if_neg (by omega)]
          exact hM.2.1 q y hq k hk
        · rw [List.getElem?_append_right (by omega)] at hq
          have hq2 := (List.getElem?_eq_some_iff.mp hq)
          obtain ⟨hq3, hq4⟩ := hq2
          have hqe : q = M.length := by
            rw [List.length_singleton] at hq3
            omega
          subst hqe
          rw [if_pos ⟨rfl, by omega, by omega⟩, show 0 + (6 * M.length + k - 6 * M.length) = k by omega]
          have hyx : y = x := by
            rw [Nat.sub_self] at hq
            exact (Option.some.inj hq).symm
          rw [hyx]
          exact hA k hk
      · obtain ⟨t, ht1, ht2, ht3⟩ := hM.2.2
        have htp : t p = 0 := by
          have := (ht1 p hp).1
          rw [hs] at this
          have h3 := (ht1 p hp).2
          exact Classical.byContradiction (fun z => i_ne0 z (show t p < 2 ^ 31 by omega) this.symm)
        have hadd : addE G M x = M ++ [x] := by
          unfold addE
          rw [if_neg hany, if_pos hlen]
        rw [hadd]
        refine ⟨fun k => if k = p then M.length + 1 else t k, fun k hk => ?_, ?_, fun q y hq => ?_⟩
        · show (wI (wI (cpL σ 134 130 0 (6 * M.length) 6) 128 6 (i32 (M.length + 1))) 131 p (i32 (M.length + 1))).1 131 k = i32 (if k = p then M.length + 1 else t k) ∧ (if k = p then M.length + 1 else t k) ≤ (M ++ [x]).length
          rw [wI_1, List.length_append, List.length_singleton]
          by_cases hkp : k = p
          · rw [if_pos ⟨rfl, hkp⟩, if_pos hkp]
            exact ⟨rfl, Nat.le_refl _⟩
          · rw [if_neg (fun z => hkp z.2), if_neg hkp, wI_1, if_neg (by omega)]
            have := ht1 k hk
            exact ⟨this.1, by omega⟩
        · rw [nzS_up htp (by omega), ht2, if_pos hp, List.length_append, List.length_singleton]
        · by_cases hqm : q < M.length
          · rw [List.getElem?_append_left hqm] at hq
            obtain ⟨d', hd', e1, e2⟩ := ht3 q y hq
            refine ⟨d', hd', ?_, fun e he => ?_⟩
            · show (if (hsE y + d') % 4096 = p then M.length + 1 else t ((hsE y + d') % 4096)) = q + 1
              rw [if_neg (fun z => by rw [z] at e1; omega)]
              exact e1
            · show (if (hsE y + e) % 4096 = p then M.length + 1 else t ((hsE y + e) % 4096)) ≠ 0
              split
              · omega
              · exact e2 e he
          · rw [List.getElem?_append_right (by omega)] at hq
            obtain ⟨hq3, hq4⟩ := (List.getElem?_eq_some_iff.mp hq)
            rw [List.length_singleton] at hq3
            have hqe : q = M.length := by omega
            subst hqe
            have hyx : y = x := by
              rw [Nat.sub_self] at hq
              exact (Option.some.inj hq).symm
            subst hyx
            refine ⟨d, hd, ?_, fun e he => ?_⟩
            · show (if (hsE y + d) % 4096 = p then M.length + 1 else t ((hsE y + d) % 4096)) = _
              rw [if_pos hpd.symm]
            · show (if (hsE y + e) % 4096 = p then M.length + 1 else t ((hsE y + e) % 4096)) ≠ 0
              split
              · omega
              · intro z
                have := (ht1 ((hsE y + e) % 4096) (Nat.mod_lt _ (by omega))).1
                rw [z] at this
                exact hbe e he this
      · funext y
        rw [wI_1, if_neg (fun q => h2 q.1), wI_1, if_neg (fun q => h1 q.1)]
        rfl
      · rw [wI_1, if_neg (by omega), wI_1, if_neg (fun q => hc q.2)]
        rfl
      · funext y
        show (cpL σ 134 130 0 (6 * M.length) 6).2 z y = _
        rw [cpL_to, if_neg (fun q => h2 q.1)]
      · funext y
        show (cpL σ 134 130 0 (6 * M.length) 6).2 132 y = _
        rw [cpL_to, if_neg (by omega)]
    · rw [if_pos (i_lt (by omega) (by omega)), addE_full (by omega)]
      exact ⟨σ, rfl, hM, FBa.refl, rfl⟩
end CBA
