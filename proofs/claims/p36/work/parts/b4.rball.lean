/-! the reference's balls -/
section RBA
variable {σ : Mem} {G : GD}
def RMet (σ : Mem) (M : List (Nat → Int)) : Prop := σ.1 306 29 = i32 M.length ∧ ∀ (q : Nat) (x : Nat → Int), M[q]? = some x → ∀ k, k < 6 → σ.2 319 (6 * q + k) = oi (x k)
def FRm (σ τ : Mem) : Prop := (∀ x, x ≠ 306 → τ.1 x = σ.1 x) ∧ (∀ c, c ≠ 29 → τ.1 306 c = σ.1 306 c) ∧ ∀ x, x ≠ 319 → τ.2 x = σ.2 x
theorem FRm.refl : FRm σ σ := ⟨fun _ _ => rfl, fun _ _ => rfl, fun _ _ => rfl⟩
theorem FRm.trans {τ υ : Mem} (h : FRm σ τ) (k : FRm τ υ) : FRm σ υ := ⟨fun x h1 => (k.1 x h1).trans (h.1 x h1), fun c hc => (k.2.1 c hc).trans (h.2.1 c hc), fun x h1 => (k.2.2 x h1).trans (h.2.2 x h1)⟩
theorem MG.frm {τ : Mem} (h : MG σ G) (f : FRm σ τ) : MG τ G := by
  unfold MG
  rw [f.1 307 (by omega)]
  exact h
theorem M0.frm {τ : Mem} (h : M0 σ) (f : FRm σ τ) : M0 τ := fun m hm => by rw [f.2.2 314 (by omega)]; exact h m hm
theorem FRm.sr {τ : Mem} (f : FRm σ τ) : SR σ τ := ⟨fun x hx => ⟨f.1 x (by omega), f.2.2 x (by omega)⟩, fun x hx => f.1 x (by omega), fun c hc => f.2.1 c (by omega), f.2.2 312 (by omega), fun m _ => by rw [f.2.2 314 (by omega)]⟩
theorem PS_wL {f : SF} {k : Nat} {v : Int64} : wL (PS σ f) 319 k v = PS (wL σ 319 k v) f := by
  refine Prod.ext rfl ?_
  funext x y
  show (if x = 319 ∧ y = k then v else if x = 313 ∧ y < 600 then oi (f (y / 6) (y % 6)) else σ.2 x y) = (if x = 313 ∧ y < 600 then oi (f (y / 6) (y % 6)) else if x = 319 ∧ y = k then v else σ.2 x y)
  by_cases h : x = 319 ∧ y = k
  · rw [if_pos h, if_neg (by omega), if_pos h]
  · rw [if_neg h, if_neg h]
theorem PS_wI {f : SF} {a k : Nat} {v : Int32} : wI (PS σ f) a k v = PS (wI σ a k v) f := rfl
theorem PS_get {f : SF} {k : Nat} : (PS σ f).2 319 k = σ.2 319 k := by rw [PS_2 (by omega)]
theorem r_place1 {f : SF} {s q : Nat} {y : Nat → Int} (hG : GOK G) (hM : MG σ G) (hs : s < 100) (hq : q ≤ 1000) (hy : ∀ k, k < 6 → σ.2 319 (6 * q + k) = oi (y k)) : loopO (fun (z6 : (Int32 × Int32)) => l_X11_place_15 (PS σ f) (i32 s) (i32 q) z6.1 z6.2) (1, 0) = some (b2i (areS G y (f s))) := by
  have hn := hG.2.1
  have hl := loop_inv (body := fun (z6 : (Int32 × Int32)) => l_X11_place_15 (PS σ f) (i32 s) (i32 q) z6.1 z6.2) (fun n z => ∃ i b, i ≤ gn G ∧ n = 2 * (gn G - i) + (if b = true then 1 else 0) ∧ z = (b2i b, i32 i) ∧ (b = true → ∀ p, p < i → oi (y p) = oi (f s p)) ∧ (b = false → ¬ ∀ p, p < gn G → oi (y p) = oi (f s p))) (fun r => r = b2i (areS G y (f s))) ?_ (2 * gn G + 1) (1, 0) ⟨0, true, by omega, rfl, rfl, fun _ p hp => absurd hp (Nat.not_lt_zero _), fun q => absurd q (by decide)⟩
  · obtain ⟨r, e, rfl⟩ := hl
    exact e
  · rintro n z ⟨i, b, hi, rfl, rfl, h1, h2⟩
    cases hb : b with
    | false =>
      have hneg := h2 hb
      have hF : areS G y (f s) = false := nb (fun z => hneg (areS_iff.mp z))
      right
      refine ⟨b2i false, ?_, by rw [hF]⟩
      show l_X11_place_15 (PS σ f) (i32 s) (i32 q) (b2i false) (i32 i) = _
      unfold l_X11_place_15
      rw [e_n (PS_MG hM), e_bs]
      split
      · rfl
      · rw [if_pos (show b2i false = 0 from rfl)]
    | true =>
      have hall := h1 hb
      by_cases hin : i = gn G
      · right
        subst hin
        have hT : areS G y (f s) = true := areS_iff.mpr hall
        refine ⟨b2i true, ?_, by rw [hT]⟩
        show l_X11_place_15 (PS σ f) (i32 s) (i32 q) (b2i true) (i32 (gn G)) = _
        unfold l_X11_place_15
        rw [e_n (PS_MG hM), e_bs, if_pos (i_le (Nat.le_refl _) (by omega))]
      · left
        have hbody : l_X11_place_15 (PS σ f) (i32 s) (i32 q) (b2i true) (i32 i) = (if oi (y i) = oi (f s i) then some true else some false : Option Bool).bind (fun (z10 : Bool) => j_X11_place_56 (i32 i) z10) := by
          unfold l_X11_place_15
          rw [e_n (PS_MG hM), e_bs, if_neg (i_nle (by omega) (by omega)), if_neg (show ¬ b2i true = 0 by decide), i32_6, i32_mul, i32_add, e_gL ln_319 (by omega) (by omega), PS_get, hy i (by omega), p_of hs (by omega), e_bs]
        by_cases he : oi (y i) = oi (f s i)
        · refine ⟨(b2i true, i32 (i + 1)), 2 * (gn G - (i + 1)) + 1, by rw [if_pos rfl]; omega, ?_, i + 1, true, by omega, rfl, rfl, fun _ p hp => ?_, fun z => absurd z (by decide)⟩
          · show l_X11_place_15 (PS σ f) (i32 s) (i32 q) (b2i true) (i32 i) = _
            rw [hbody, if_pos he, e_bs]
            unfold j_X11_place_56
            rw [i32_1, i32_add]
          · by_cases hpi : p = i
            · rw [hpi]; exact he
            · exact hall p (by omega)
        · refine ⟨(b2i false, i32 (i + 1)), 2 * (gn G - (i + 1)) + 0, by rw [if_pos rfl]; omega, ?_, i + 1, false, by omega, rfl, rfl, fun z => absurd z (by decide), fun _ z => he (z i (by omega))⟩
          show l_X11_place_15 (PS σ f) (i32 s) (i32 q) (b2i true) (i32 i) = _
          rw [hbody, if_neg he, e_bs]
          unfold j_X11_place_56
          rw [i32_1, i32_add]
theorem r_place {f : SF} {s : Nat} {M : List (Nat → Int)} (hG : GOK G) (hM : MG σ G) (hs : s < 100) (hR : RMet σ M) (hl : M.length ≤ 1001) (hF : Far G M) : f_X11_place (PS σ f) (i32 s) = some (i32 (fnd G M (f s))) := by
  unfold f_X11_place
  have hloop := loop_inv (body := fun (z2 : Int32) => l_X11_place_2 (PS σ f) (i32 s) z2) (fun n z => ∃ k, k ≤ M.length ∧ n = M.length - k ∧ z = i32 k ∧ ∀ (p : Nat) (y : Nat → Int), p < k → M[p]? = some y → areS G y (f s) = false) (fun r => (fnd G M (f s) = M.length ∧ r = Sum.inl ()) ∨ (fnd G M (f s) < M.length ∧ r = Sum.inr (i32 (fnd G M (f s))))) ?_ M.length 0 ⟨0, by omega, rfl, rfl, fun p y hp => absurd hp (Nat.not_lt_zero _)⟩
  · obtain ⟨r, e, hc⟩ := hloop
    rw [e, e_bs]
    rcases hc with ⟨h1, rfl⟩ | ⟨h1, rfl⟩
    · show j_X11_place_75 (PS σ f) = _
      unfold j_X11_place_75
      rw [e_gF, PS_1, hR.1, h1]
    · rfl
  · rintro n z ⟨k, hk, rfl, rfl, hd⟩
    by_cases hkl : k = M.length
    · right
      subst hkl
      refine ⟨Sum.inl (), ?_, Or.inl ⟨?_, rfl⟩⟩
      · unfold l_X11_place_2
        rw [e_gF, PS_1, hR.1, if_pos (i_le (Nat.le_refl _) (by omega))]
      · have h1 := fnd_le (G := G) (M := M) (x := f s)
        refine Classical.byContradiction (fun q => ?_)
        obtain ⟨y, hy, hyx⟩ := fnd_hit (G := G) (M := M) (x := f s) (by omega)
        have := hd _ y (by omega) hy
        rw [hyx] at this
        cases this
    · have hk1 : k < M.length := by omega
      have hget : M[k]? = some M[k] := List.getElem?_eq_getElem hk1
      have e1 := r_place1 (σ := σ) (f := f) (s := s) (q := k) hG hM hs (by omega) (hR.2 k _ hget)
      have hbody : l_X11_place_2 (PS σ f) (i32 s) (i32 k) = j_X11_place_63 (i32 k) (b2i (areS G M[k] (f s))) := by
        unfold l_X11_place_2
        rw [e_gF, PS_1, hR.1, if_neg (i_nle hk1 (by omega)), e1, e_bs]
      cases hb : areS G M[k] (f s) with
      | true =>
        right
        have hq := fnd_eq hF hget hb
        refine ⟨Sum.inr (i32 k), ?_, Or.inr ⟨by omega, by rw [hq]⟩⟩
        rw [hbody, hb]
        unfold j_X11_place_63
        rw [if_neg (by decide)]
      | false =>
        left
        refine ⟨i32 (k + 1), M.length - (k + 1), by omega, ?_, k + 1, by omega, rfl, rfl, fun p y hp hy => ?_⟩
        · rw [hbody, hb]
          unfold j_X11_place_63
          rw [if_pos (by decide), i32_1, i32_add]
        · by_cases hpk : p = k
          · subst hpk
            rw [hget] at hy
            rw [← Option.some.inj hy]
            exact hb
          · exact hd p y (by omega) hy
theorem r_meets {f : SF} {s : Nat} {M : List (Nat → Int)} (hG : GOK G) (hM : MG σ G) (hs : s < 100) (hR : RMet σ M) (hl : M.length ≤ 1000) (hF : Far G M) : ∃ τ, f_X11_meets (PS σ f) (i32 s) = some (PS τ f) ∧ RMet τ (addE G M (f s)) ∧ FRm σ τ := by
  have hle := fnd_le (G := G) (M := M) (x := f s)
  unfold f_X11_meets
  rw [r_place hG hM hs hR (by omega) hF, e_bs, e_gF, PS_1, hR.1]
  by_cases hfn : fnd G M (f s) < M.length
  · rw [if_neg (i_nle hfn (by omega))]
    refine ⟨σ, rfl, ?_, FRm.refl⟩
    unfold addE
    rw [if_pos (fnd_any.mp hfn)]
    exact hR
  · have hfe : fnd G M (f s) = M.length := by omega
    have hany : ¬ M.any (fun y => areS G y (f s)) = true := fun z => hfn (fnd_any.mpr z)
    have hadd : addE G M (f s) = M ++ [f s] := by
      unfold addE
      rw [if_neg hany, if_pos hl]
    rw [hfe, if_pos (i_le (Nat.le_refl _) (by omega)), hadd]
    have hloop := loop_inv (body := fun (z7 : (Mem × Int32)) => l_X11_meets_17 (i32 s) (i32 M.length) z7.1 z7.2) (fun n z => ∃ k τ, k ≤ 6 ∧ n = 6 - k ∧ z = (PS τ f, i32 k) ∧ τ.1 = σ.1 ∧ (∀ x, x ≠ 319 → τ.2 x = σ.2 x) ∧ (∀ y, y < 6 * M.length → τ.2 319 y = σ.2 319 y) ∧ ∀ p, p < k → τ.2 319 (6 * M.length + p) = oi (f s p)) (fun r => ∃ τ, r = PS τ f ∧ τ.1 = σ.1 ∧ (∀ x, x ≠ 319 → τ.2 x = σ.2 x) ∧ (∀ y, y < 6 * M.length → τ.2 319 y = σ.2 319 y) ∧ ∀ p, p < 6 → τ.2 319 (6 * M.length + p) = oi (f s p)) ?_ 6 (PS σ f, 0) ⟨0, σ, by omega, rfl, rfl, rfl, fun _ _ => rfl, fun _ _ => rfl, fun p hp => absurd hp (Nat.not_lt_zero _)⟩
    · obtain ⟨r, e, τ, rfl, t1, t2, t3, t4⟩ := hloop
      rw [e, e_bs]
      unfold j_X11_meets_46
      rw [e_gF, PS_1, t1, hR.1, e_pF, i32_1, i32_add, PS_wI]
      refine ⟨_, rfl, ⟨?_, fun q x hq k hk => ?_⟩, fun x hx => ?_, fun c hc => ?_, t2⟩
      · rw [wI_1, if_pos ⟨rfl, rfl⟩, List.length_append, List.length_singleton]
      · show τ.2 319 (6 * q + k) = _
        by_cases hqm : q < M.length
        · rw [List.getElem?_append_left hqm] at hq
          rw [t3 _ (by omega)]
          exact hR.2 q x hq k hk
        · rw [List.getElem?_append_right (by omega)] at hq
          obtain ⟨hq3, _⟩ := (List.getElem?_eq_some_iff.mp hq)
          rw [List.length_singleton] at hq3
          have hqe : q = M.length := by omega
          subst hqe
          have hyx : x = f s := by
            rw [Nat.sub_self] at hq
            exact (Option.some.inj hq).symm
          rw [hyx]
          exact t4 k hk
      · funext y; rw [wI_1, if_neg (fun q => hx q.1), t1]
      · rw [wI_1, if_neg (fun q => hc q.2), t1]
    · rintro n z ⟨k, τ, hk, rfl, rfl, t1, t2, t3, t4⟩
      by_cases hk6 : k = 6
      · right
        subst hk6
        refine ⟨PS τ f, ?_, τ, rfl, t1, t2, t3, t4⟩
        show l_X11_meets_17 (i32 s) (i32 M.length) (PS τ f) (i32 6) = _
        unfold l_X11_meets_17
        rw [i32_6, if_pos (i_le (Nat.le_refl _) (by omega))]
      · left
        refine ⟨(PS (wL τ 319 (6 * M.length + k) (oi (f s k))) f, i32 (k + 1)), 6 - (k + 1), by omega, ?_, k + 1, _, by omega, rfl, rfl, t1, fun x hx => ?_, fun y hy => ?_, fun p hp => ?_⟩
        · show l_X11_meets_17 (i32 s) (i32 M.length) (PS τ f) (i32 k) = _
          unfold l_X11_meets_17
          rw [i32_6, if_neg (i_nle (by omega) (by omega)), p_of hs (by omega), e_bs, i32_mul, i32_add, e_pL ln_319 (by omega) (by omega), PS_wL, i32_1, i32_add]
        · funext y; rw [wL_2, if_neg (fun q => hx q.1), t2 x hx]
        · rw [wL_2, if_neg (by omega)]; exact t3 y hy
        · rw [wL_2]
          by_cases hpk : p = k
          · rw [if_pos ⟨rfl, by omega⟩, hpk]
          · rw [if_neg (by omega)]; exact t4 p (by omega)
theorem p_timesLetter {f : SF} {s i : Nat} {y : Int} (hM : MG σ G) (hG : GOK G) (h0 : M0 σ) (hs : s < 100) (hi : i < gn G) (hy1 : gw G i = 1 → two64ok y) (ha : ∀ j, j < gn G → gw G j = 1 → two64ok (f s j)) : f_X11_timesLetter (PS σ f) (i32 s) (i32 i) (oi y) = some (PS σ (uS f s (TL G (f s) i y))) := by
  rw [e_timesLetter (PS_MG hM) hG hs hi (a := f s) (fun i hi => PS_vec hs hi) (PS_M0 h0) hy1 ha, PS_setI hs]
theorem r_takes {f : SF} {q : Nat} {x : Nat → Int} (hq : q ≤ 1000) (hx : ∀ k, k < 6 → σ.2 319 (6 * q + k) = oi (x k)) : loopO (fun (z27 : (Mem × Int32)) => l_X11_laysBall_74 (i32 q) z27.1 z27.2) (PS σ f, 0) = some (PS σ (uS f 20 x)) := by
  have hl := loop_inv (body := fun (z27 : (Mem × Int32)) => l_X11_laysBall_74 (i32 q) z27.1 z27.2) (fun n z => ∃ k a, k ≤ 6 ∧ n = 6 - k ∧ z = (PS σ (uS f 20 a), i32 k) ∧ ∀ p, p < k → a p = x p) (fun r => r = PS σ (uS f 20 x)) ?_ 6 (PS σ f, 0) ⟨0, f 20, by omega, rfl, by
      have : uS f 20 (f 20) = f := by
        funext r
        by_cases h : r = 20
        · rw [h, uS_self]
        · rw [uS_ne h]
      rw [this]; rfl, fun p hp => absurd hp (Nat.not_lt_zero _)⟩
  · obtain ⟨r, e, rfl⟩ := hl
    exact e
  · rintro n z ⟨k, a, hk, rfl, rfl, ha⟩
    by_cases hk6 : k = 6
    · right
      subst hk6
      refine ⟨PS σ (uS f 20 a), ?_, PS_congr (fun r i hr hi => ?_)⟩
      · show l_X11_laysBall_74 (i32 q) (PS σ (uS f 20 a)) (i32 6) = _
        unfold l_X11_laysBall_74
        rw [i32_6, if_pos (i_le (Nat.le_refl _) (by omega))]
      · by_cases h : r = 20
        · rw [h, uS_self, uS_self, ha i hi]
        · rw [uS_ne h, uS_ne h]
    · left
      refine ⟨(PS σ (uS f 20 (uV a k (x k))), i32 (k + 1)), 6 - (k + 1), by omega, ?_, k + 1, _, by omega, rfl, rfl, fun p hp => ?_⟩
      · show l_X11_laysBall_74 (i32 q) (PS σ (uS f 20 a)) (i32 k) = _
        unfold l_X11_laysBall_74
        have hp := p_puts (σ := σ) (f := uS f 20 a) (s := 20) (i := k) (x := x k) (by omega) (by omega)
        rw [uS_self] at hp
        have h2 : uS (uS f 20 a) 20 (uV a k (x k)) = uS f 20 (uV a k (x k)) := by
          funext r
          by_cases h : r = 20
          · rw [h, uS_self, uS_self]
          · rw [uS_ne h, uS_ne h, uS_ne h]
        rw [h2] at hp
        have hp' : f_X11_puts (PS σ (uS f 20 a)) 20 (i32 k) (oi (x k)) = some (PS σ (uS f 20 (uV a k (x k)))) := hp
        rw [i32_6, if_neg (i_nle (by omega) (by omega)), i32_mul, i32_add, e_gL ln_319 (by omega) (by omega), PS_get, hx k (by omega), hp', e_bs, i32_1, i32_add]
      · unfold uV
        by_cases h : p = k
        · rw [if_pos h, h]
        · rw [if_neg h]; exact ha p (by omega)
theorem i_half {g : Nat} (h : g < 12) : i32 g / 2 = i32 (g / 2) ∧ i32 g - i32 g / 2 * 2 = i32 (g % 2) := by
  have key : (List.range 12).all (fun g => decide (i32 g / 2 = i32 (g / 2) ∧ i32 g - i32 g / 2 * 2 = i32 (g % 2))) = true := by decide +kernel
  exact of_decide_eq_true (List.all_eq_true.mp key g (List.mem_range.mpr h))
theorem r_ballRow {f : SF} {B : Int} {x : Nat → Int} {M : List (Nat → Int)} {q : Nat} (hG : GOK G) (hM : MG σ G) (h0 : M0 σ) (hR : RMet σ M) (hl : M.length ≤ 1000) (hF : Far G M) (hq : M[q]? = some x) (hB : 0 ≤ B ∧ B ≤ 100) (px : PB G B x) : ∃ r, loopO (fun (z17 : (Mem × Int32)) => l_X11_laysBall_45 (i32 q) z17.1 z17.2) (PS σ f, 0) = some r ∧ ∃ τ g, RMet τ (hE G x M (2 * gn G)) ∧ FRm σ τ ∧ (∀ s, s ≠ 20 → g s = f s) ∧ ((r = Sum.inl (PS τ g) ∧ (hE G x M (2 * gn G)).length ≤ 1000) ∨ (r = Sum.inr (Sum.inr (Sum.inr (Sum.inr (Sum.inl (PS τ g))))) ∧ 1000 < (hE G x M (2 * gn G)).length)) := by
  have hn := hG.2.1
  have hql : q < M.length := (List.getElem?_eq_some_iff.mp hq).1
  refine loop_inv (body := fun (z17 : (Mem × Int32)) => l_X11_laysBall_45 (i32 q) z17.1 z17.2) (fun n z => ∃ t τ g, t ≤ 2 * gn G ∧ n = 2 * gn G - t ∧ z = (PS τ g, i32 t) ∧ RMet τ (hE G x M t) ∧ (hE G x M t).length ≤ 1000 ∧ FRm σ τ ∧ ∀ s, s ≠ 20 → g s = f s) _ ?_ (2 * gn G) (PS σ f, 0) ⟨0, σ, f, by omega, rfl, rfl, hR, hl, FRm.refl, fun _ _ => rfl⟩
  rintro n z ⟨t, τ, g, ht, rfl, rfl, c, hlt, fr, hg⟩
  have hMt := hM.frm fr
  have h0t := h0.frm fr
  by_cases htn : t = 2 * gn G
  · right
    subst htn
    refine ⟨Sum.inl (PS τ g), ?_, τ, g, c, fr, hg, Or.inl ⟨rfl, hlt⟩⟩
    show l_X11_laysBall_45 (i32 q) (PS τ g) (i32 (2 * gn G)) = _
    unfold l_X11_laysBall_45
    rw [e_n (PS_MG hMt), e_bs, i32_2, i32_mul, if_pos (i_le (Nat.le_refl _) (by omega))]
  · have hh := i_half (g := t) (by omega)
    have hw1 := (hG.2.2.1 (t / 2) (by omega)).1
    have hw3 := (hG.2.2.1 (t / 2) (by omega)).2
    have hstep : hE G x M (t + 1) = if gw G (t / 2) = 1 then addE G (hE G x M t) (TL G x (t / 2) (if t % 2 = 0 then 1 else -1)) else hE G x M t := rfl
    by_cases hw : gw G (t / 2) = 1
    · rw [if_pos hw] at hstep
      have hrow := c.2 q x (by rw [pre_get (hE_pre t) hql]; exact hq)
      have a1 := r_takes (σ := τ) (f := g) (q := q) (x := x) (by omega) hrow
      have a2 := p_timesLetter (σ := τ) (f := uS g 20 x) (s := 20) (i := t / 2) (y := if t % 2 = 0 then 1 else -1) hMt hG h0t (by omega) (by omega) (fun _ => by unfold two64ok; split <;> omega) (fun j hj hw => by
        rw [uS_self]
        have := px.1 j hj hw
        unfold two64ok
        omega)
      rw [uS_self] at a2
      have v2 : (uS (uS g 20 x) 20 (TL G x (t / 2) (if t % 2 = 0 then 1 else -1))) 20 = TL G x (t / 2) (if t % 2 = 0 then 1 else -1) := uS_self
      have k2 : ∀ s, s ≠ 20 → (uS (uS g 20 x) 20 (TL G x (t / 2) (if t % 2 = 0 then 1 else -1))) s = f s := fun s hs => by rw [uS_ne hs, uS_ne hs]; exact hg s hs
      generalize uS (uS g 20 x) 20 (TL G x (t / 2) (if t % 2 = 0 then 1 else -1)) = g2 at a2 v2 k2
      obtain ⟨τ2, a3, c3, f3⟩ := r_meets (σ := τ) (f := g2) (s := 20) hG hMt (by omega) c hlt (hE_far hF t)
      rw [v2, ← hstep] at c3
      have a2' : f_X11_timesLetter (PS τ (uS g 20 x)) 20 (i32 (t / 2)) (oi (if t % 2 = 0 then 1 else -1)) = some (PS τ g2) := a2
      have a3' : f_X11_meets (PS τ g2) 20 = some (PS τ2 g2) := a3
      have esgn : (if i32 (t % 2) = 0 then some 1 else some (-1) : Option Int64) = some (oi (if t % 2 = 0 then 1 else -1)) := by
        by_cases hz : t % 2 = 0
        · rw [hz, if_pos (show i32 0 = 0 from rfl), if_pos rfl]; rfl
        · rw [if_neg (i_ne0 hz (by omega)), if_neg hz]; rfl
      have hbody : l_X11_laysBall_45 (i32 q) (PS τ g) (i32 t) = if i32 (hE G x M (t + 1)).length ≤ 1000 then j_X11_laysBall_153 (i32 t) (PS τ2 g2) else some (Sum.inr (Sum.inr (Sum.inr (Sum.inr (Sum.inr (Sum.inl (PS τ2 g2))))))) := by
        unfold l_X11_laysBall_45
        rw [e_n (PS_MG hMt), e_bs, i32_2, i32_mul, if_neg (i_nle (by omega) (by omega)), e_nzI (by decide), show (i32 t / i32 2) = i32 (t / 2) from hh.1, e_weight (PS_MG hMt) (by omega), e_bs, hw, if_pos (show i32 1 ≤ 1 by decide), a1, e_bs]
        unfold j_X11_laysBall_108
        rw [e_nzI (by decide), e_nzI (by decide), hh.2, esgn, e_bs]
        unfold j_X11_laysBall_129
        rw [hh.1, a2', e_bs, a3', e_bs, e_gF, PS_1, c3.1]
        split <;> rfl
      by_cases hov : (hE G x M (t + 1)).length ≤ 1000
      · left
        refine ⟨(PS τ2 g2, i32 (t + 1)), 2 * gn G - (t + 1), by omega, ?_, t + 1, τ2, g2, by omega, rfl, rfl, c3, hov, fr.trans f3, k2⟩
        show l_X11_laysBall_45 (i32 q) (PS τ g) (i32 t) = _
        rw [hbody, show (1000 : Int32) = i32 1000 from rfl, if_pos (i_le hov (by omega))]
        unfold j_X11_laysBall_153
        rw [i32_1, i32_add]
      · right
        have h1001 := hE_len (G := G) (x := x) (M := M) (by omega) (t + 1)
        have hall := hE_over (G := G) (x := x) (M := M) (g := t + 1) (by omega) (2 * gn G - (t + 1))
        rw [show t + 1 + (2 * gn G - (t + 1)) = 2 * gn G by omega] at hall
        refine ⟨_, ?_, τ2, g2, by rw [hall]; exact c3, fr.trans f3, k2, Or.inr ⟨rfl, by rw [hall]; omega⟩⟩
        show l_X11_laysBall_45 (i32 q) (PS τ g) (i32 t) = _
        rw [hbody, show (1000 : Int32) = i32 1000 from rfl, if_neg (i_nle (by omega) (by omega))]
    · left
      rw [if_neg hw] at hstep
      refine ⟨(PS τ g, i32 (t + 1)), 2 * gn G - (t + 1), by omega, ?_, t + 1, τ, g, by omega, rfl, rfl, by rw [hstep]; exact c, by rw [hstep]; exact hlt, fr, hg⟩
      show l_X11_laysBall_45 (i32 q) (PS τ g) (i32 t) = _
      unfold l_X11_laysBall_45
      rw [e_n (PS_MG hMt), e_bs, i32_2, i32_mul, if_neg (i_nle (by omega) (by omega)), e_nzI (by decide), show (i32 t / i32 2) = i32 (t / 2) from hh.1, e_weight (PS_MG hMt) (by omega), e_bs, if_neg (show ¬ i32 (gw G (t / 2)) ≤ 1 from i_nle (b := 1) (by omega) (by omega)), e_bs]
      show j_X11_laysBall_153 (i32 t) (PS τ g) = _
      unfold j_X11_laysBall_153
      rw [i32_1, i32_add]
theorem r_ballGrow {f : SF} {B : Int} {M : List (Nat → Int)} {s : Nat} (hG : GOK G) (hM : MG σ G) (h0 : M0 σ) (hR : RMet σ M) (hl : M.length ≤ 1000) (hF : Far G M) (hB : 0 ≤ B ∧ B ≤ 100) (pM : ∀ y, y ∈ M → PB G B y) (hs : s ≤ M.length) : ∃ r, loopO (fun (z14 : (Mem × Int32)) => l_X11_laysBall_35 (i32 M.length) z14.1 z14.2) (PS σ f, i32 s) = some r ∧ ∃ τ g, RMet τ (growE G M s (M.length - s)) ∧ FRm σ τ ∧ (∀ s, s ≠ 20 → g s = f s) ∧ ((r = Sum.inl (PS τ g) ∧ (growE G M s (M.length - s)).length ≤ 1000) ∨ (r = Sum.inr (Sum.inr (Sum.inl (PS τ g))) ∧ 1000 < (growE G M s (M.length - s)).length)) := by
  refine loop_inv (body := fun (z14 : (Mem × Int32)) => l_X11_laysBall_35 (i32 M.length) z14.1 z14.2) (fun n z => ∃ k τ g, s + k ≤ M.length ∧ n = M.length - (s + k) ∧ z = (PS τ g, i32 (s + k)) ∧ RMet τ (growE G M s k) ∧ (growE G M s k).length ≤ 1000 ∧ FRm σ τ ∧ ∀ s, s ≠ 20 → g s = f s) _ ?_ (M.length - s) (PS σ f, i32 s) ⟨0, σ, f, by omega, rfl, rfl, hR, hl, FRm.refl, fun _ _ => rfl⟩
  rintro n z ⟨k, τ, g, hk, rfl, rfl, c, hlt, fr, hg⟩
  by_cases hkn : s + k = M.length
  · right
    have : M.length - s = k := by omega
    refine ⟨Sum.inl (PS τ g), ?_, τ, g, by rw [this]; exact c, fr, hg, Or.inl ⟨rfl, by rw [this]; exact hlt⟩⟩
    show l_X11_laysBall_35 (i32 M.length) (PS τ g) (i32 (s + k)) = _
    unfold l_X11_laysBall_35
    rw [hkn, if_pos (i_le (Nat.le_refl _) (by omega))]
  · have hsk : s + k < M.length := by omega
    have hget : (growE G M s k)[s + k]? = some (M.getD (s + k) O) := by
      rw [pre_get (growE_pre k) hsk, List.getD_eq_getElem?_getD, List.getElem?_eq_getElem hsk]
      rfl
    obtain ⟨r, e1, τ2, g2, c2, f2, k2, hc⟩ := r_ballRow (σ := τ) (f := g) hG (hM.frm fr) (h0.frm fr) c hlt (growE_far hF k) hget hB (getD_pb hB.1 pM (s + k))
    rw [← growE_h] at c2 hc
    have hbody : l_X11_laysBall_35 (i32 M.length) (PS τ g) (i32 (s + k)) = (some r).bind (Sum.elim (fun (z15 : Mem) => j_X11_laysBall_159 (i32 (s + k)) z15) some) := by
      unfold l_X11_laysBall_35
      rw [if_neg (i_nle hsk (by omega)), e1]
    rcases hc with ⟨rfl, hlen⟩ | ⟨rfl, hlen⟩
    · left
      refine ⟨(PS τ2 g2, i32 (s + (k + 1))), M.length - (s + (k + 1)), by omega, ?_, k + 1, τ2, g2, by omega, rfl, rfl, c2, hlen, fr.trans f2, fun q hq => (k2 q hq).trans (hg q hq)⟩
      show l_X11_laysBall_35 (i32 M.length) (PS τ g) (i32 (s + k)) = _
      rw [hbody, e_bs]
      show j_X11_laysBall_159 (i32 (s + k)) (PS τ2 g2) = _
      unfold j_X11_laysBall_159
      rw [i32_1, i32_add, Nat.add_assoc]
    · right
      have hall := growE_over (G := G) (M := M) (s := s) (k := k + 1) hlen (M.length - s - (k + 1))
      rw [show k + 1 + (M.length - s - (k + 1)) = M.length - s by omega] at hall
      refine ⟨_, ?_, τ2, g2, by rw [hall]; exact c2, fr.trans f2, fun q hq => (k2 q hq).trans (hg q hq), Or.inr ⟨rfl, by rw [hall]; exact hlen⟩⟩
      show l_X11_laysBall_35 (i32 M.length) (PS τ g) (i32 (s + k)) = _
      rw [hbody, e_bs]
      rfl
theorem r_laysBall {f : SF} {l : Nat} (hG : GOK G) (hM : MG σ G) (h0 : M0 σ) (hl : l ≤ 4) : ∃ τ g, f_X11_laysBall (PS σ f) (i32 l) = some (i32 (lvl G l).2.length, PS τ g) ∧ RMet τ (lvl G l).2 ∧ FRm σ τ ∧ ∀ s, s ≠ 20 → g s = f s := by
  have fr1 : FRm σ (wI σ 306 29 0) := ⟨fun x hx => by funext y; rw [wI_1, if_neg (fun q => hx q.1)], fun c hc => by rw [wI_1, if_neg (fun q => hc q.2)], fun _ _ => rfl⟩
  have c1 : RMet (wI σ 306 29 0) [] := ⟨by rw [wI_1, if_pos ⟨rfl, rfl⟩]; rfl, fun q x hq => by simp at hq⟩
  have a1 : f_X11_ones (PS (wI σ 306 29 0) f) 20 = some (PS (wI σ 306 29 0) (uS f 20 (fun _ => 0))) := p_ones (s := 20) (by omega)
  obtain ⟨σ2, a2, c2, f2⟩ := r_meets (σ := wI σ 306 29 0) (f := uS f 20 (fun _ => 0)) (s := 20) hG (hM.frm fr1) (by omega) c1 (Nat.zero_le _) List.Pairwise.nil
  rw [uS_self] at c2
  have c2' : RMet σ2 (lvl G 0).2 := c2
  have a2' : f_X11_meets (PS (wI σ 306 29 0) (uS f 20 (fun _ => 0))) 20 = some (PS σ2 (uS f 20 (fun _ => 0))) := a2
  have F2 := fr1.trans f2
  have hloop := loop_inv (body := fun (z10 : (Mem × Int32 × Int32)) => l_X11_laysBall_21 (i32 l) z10.1 z10.2.1 z10.2.2) (fun n z => ∃ r τ g, r ≤ l ∧ n = l - r ∧ z = (PS τ g, i32 (lvl G r).1, i32 r) ∧ RMet τ (lvl G r).2 ∧ (lvl G r).2.length ≤ 1000 ∧ FRm σ τ ∧ ∀ s, s ≠ 20 → g s = f s) (fun x => ∃ τ g, RMet τ (lvl G l).2 ∧ FRm σ τ ∧ (∀ s, s ≠ 20 → g s = f s) ∧ (x = Sum.inl (PS τ g) ∨ x = Sum.inr (Sum.inl (PS τ g)))) ?_ l (PS σ2 (uS f 20 (fun _ => 0)), 0, 0) ⟨0, σ2, _, by omega, rfl, rfl, c2', by show [O].length ≤ 1000; decide, F2, fun s hs => uS_ne hs⟩
  · obtain ⟨x, e, τ, g, c, fr, hg, hx⟩ := hloop
    refine ⟨τ, g, ?_, c, fr, hg⟩
    unfold f_X11_laysBall
    rw [e_pF, PS_wI, a1, e_bs, a2', e_bs, e, e_bs]
    rcases hx with rfl | rfl
    · show (j_X11_laysBall_148 (PS τ g)).bind (Sum.elim (fun (z4 : Mem) => j_X11_laysBall_174 z4) some) = _
      unfold j_X11_laysBall_148
      rw [e_gF, e_bs, PS_1, c.1]
      rfl
    · show (some (Sum.inl (PS τ g)) : Option (Mem ⊕ (Int32 × Mem))).bind (Sum.elim (fun (z4 : Mem) => j_X11_laysBall_174 z4) some) = _
      rw [e_bs]
      show j_X11_laysBall_174 (PS τ g) = _
      unfold j_X11_laysBall_174
      rw [e_gF, PS_1, c.1]
  · rintro n z ⟨r, τ, g, hr, rfl, rfl, c, hlt, fr, hg⟩
    by_cases hrl : r = l
    · right
      subst hrl
      refine ⟨Sum.inr (Sum.inl (PS τ g)), ?_, τ, g, c, fr, hg, Or.inr rfl⟩
      show l_X11_laysBall_21 (i32 r) (PS τ g) _ (i32 r) = _
      unfold l_X11_laysBall_21
      rw [if_pos (i_le (Nat.le_refl _) (by omega))]
    · obtain ⟨b1, b2, b3, b4, b5⟩ := lvl_facts hG r
      obtain ⟨x, e1, τ2, g2, c3, f3, k3, hc⟩ := r_ballGrow (σ := τ) (f := g) (B := r) (s := (lvl G r).1) hG (hM.frm fr) (h0.frm fr) c hlt b4 ⟨by omega, by omega⟩ b5 b1
      have c3' : RMet τ2 (lvl G (r + 1)).2 := c3
      have hbody : l_X11_laysBall_21 (i32 l) (PS τ g) (i32 (lvl G r).1) (i32 r) = (some x).bind (Sum.elim (fun (z12 : Mem) => j_X11_laysBall_165 (i32 r) (i32 (lvl G r).2.length) z12) some) := by
        unfold l_X11_laysBall_21
        rw [if_neg (i_nle (by omega) (by omega)), e_gF, PS_1, c.1, e1]
      rcases hc with ⟨rfl, hlen⟩ | ⟨rfl, hlen⟩
      · left
        refine ⟨(PS τ2 g2, i32 (lvl G (r + 1)).1, i32 (r + 1)), l - (r + 1), by omega, ?_, r + 1, τ2, g2, by omega, rfl, rfl, c3', hlen, fr.trans f3, fun q hq => (k3 q hq).trans (hg q hq)⟩
        show l_X11_laysBall_21 (i32 l) (PS τ g) (i32 (lvl G r).1) (i32 r) = _
        rw [hbody, e_bs]
        show j_X11_laysBall_165 (i32 r) (i32 (lvl G r).2.length) (PS τ2 g2) = _
        unfold j_X11_laysBall_165
        rw [i32_1, i32_add]
        rfl
      · right
        have hlen' : 1000 < (lvl G (r + 1)).2.length := hlen
        have hall := lvl_over hlen' (l - (r + 1))
        rw [show r + 1 + (l - (r + 1)) = l by omega] at hall
        refine ⟨_, ?_, τ2, g2, by rw [hall]; exact c3', fr.trans f3, fun q hq => (k3 q hq).trans (hg q hq), Or.inl rfl⟩
        show l_X11_laysBall_21 (i32 l) (PS τ g) (i32 (lvl G r).1) (i32 r) = _
        rw [hbody, e_bs]
        rfl
theorem ok_29 : Ok_29 II := by
  intro c σ x hc ⟨S, ok, h, hr⟩
  have hG : GOK (aG S) := ok.1.1
  obtain ⟨b, hb, hB⟩ := c_cons h
  have e := fun τ : Mem => r_in (σ := τ) (x := x) (l := 0) (u := 4) ⟨by omega, by omega⟩ ⟨by omega, by omega⟩
  have f0 : LO σ (wI σ 306 0 0) := LO.row (by omega)
  unfold f_X10_ball
  by_cases hx : 0 ≤ x.toInt ∧ x.toInt ≤ 4
  · have hxi := i32_of hx.1
    have hx4 : x.toInt.toNat ≤ 4 := by omega
    rw [if_neg (fun q => by have := (lt32 (k := 0) (by omega)).mp q; omega), if_neg (fun q => by have := (gt32 (k := 4) (by omega)).mp q; omega), e_gZ hb]
    cases hbt : b with
    | false =>
      obtain ⟨b3, τ, e3, q3, l3, _, _, hc3⟩ := r_cons hr.told ok
      have : b3 = b := bool_iff hc3 hB
      subst this
      refine ⟨-1, σ, τ, rfl, ?_, fin_q ok h q3 (f0.trans l3)⟩
      unfold f_X11_ball
      rw [e_pF, show (0 : Int64) = oi 0 from rfl, show (4 : Int64) = oi 4 from rfl, e, e_bs, decide_eq_true hx, if_pos rfl, e3, e_bq, hbt, if_neg (by decide)]
    | true =>
      have hcons := hB.mp hbt
      obtain ⟨σ1, e1, h1, hi1⟩ := c_sizeOf ok hc h hcons hx4
      rw [← hxi] at e1
      obtain ⟨b3, τ, e3, q3, l3, _, _, hc3⟩ := r_cons (hr.hi hi1).told ok
      have : b3 = true := hc3.mpr hcons
      subst this
      obtain ⟨⟨f, hf⟩, hI, hL, hM, h0, hRB⟩ := at_slots q3
      obtain ⟨τ2, g, e4, c4, fr, _⟩ := r_laysBall (σ := τ) (f := f) hG hM h0 hx4
      rw [← hxi, hf] at e4
      have f1 : LO σ1 (wI σ1 306 0 0) := LO.row (by omega)
      have qI : IRef S (PS τ2 g) := (q3.sr fr.sr).sr PS.sr
      have hlen := (lvl_facts hG x.toInt.toNat).2.1
      refine ⟨szE (aG S) x.toInt.toNat, σ1, PS τ2 g, ?_, ?_, fin_q ok h1 qI (f1.trans (l3.trans (fr.sr.lo.trans PS.sr.lo)))⟩
      · rw [if_pos rfl, e1, e_bq]
      · unfold f_X11_ball
        rw [e_pF, show (0 : Int64) = oi 0 from rfl, show (4 : Int64) = oi 4 from rfl, e, e_bs, decide_eq_true hx, if_pos rfl, e3, e_bq, if_pos rfl, e4, e_bq]
        unfold szE
        by_cases hle : (lvl (aG S) x.toInt.toNat).2.length ≤ 1000
        · rw [if_pos hle, show (1000 : Int32) = i32 1000 from rfl, if_pos (i_le hle (by omega))]
        · rw [if_neg hle, show (1000 : Int32) = i32 1000 from rfl, if_neg (i_nle (by omega) (by omega))]
  · have hrf : f_X11_ball σ x = some (-1, wI σ 306 0 0) := by
      unfold f_X11_ball
      rw [e_pF, show (0 : Int64) = oi 0 from rfl, show (4 : Int64) = oi 4 from rfl, e, e_bs, decide_eq_false hx, if_neg (by decide)]
    refine ⟨-1, σ, _, ?_, hrf, fin_q ok h hr.told f0⟩
    by_cases h1 : x < 0
    · rw [if_pos h1]
    · have h1' : ¬ x.toInt < 0 := fun q => h1 ((lt32 (k := 0) (by omega)).mpr q)
      rw [if_neg h1, if_pos (show 4 < x from (gt32 (k := 4) (by omega)).mpr (by omega))]
end RBA
