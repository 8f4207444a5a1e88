/-! collect: the call -/
section CLL
variable {σ : Mem} {G : GD}
theorem FA.sc {τ : Mem} (h : FA σ τ) : SC σ τ := ⟨fun x hx => h.2.1 x (by omega) (by omega), fun c _ => by rw [h.2.1 40 (by omega) (by omega)], fun c _ => by rw [h.2.1 144 (by omega) (by omega)], fun x _ => by rw [h.1]⟩
theorem FC.sc {τ : Mem} (h : FC σ τ) : SC σ τ := ⟨fun x hx => h.2.1 x (by omega) (by omega) (by omega) (by omega), fun c _ => by rw [h.2.1 40 (by omega) (by omega) (by omega) (by omega)], fun c _ => by rw [h.2.1 144 (by omega) (by omega) (by omega) (by omega)], fun x _ => by rw [h.1]⟩
theorem FX.sr {τ : Mem} (h : FX σ τ) : SR σ τ := ⟨fun x hx => ⟨h.2.1 x (by omega) (by omega), by rw [h.1]⟩, fun x hx => h.2.1 x (by omega) (by omega), fun c hc => h.2.2 c (by omega) (by omega), by rw [h.1], fun m _ => by rw [h.1]⟩
theorem ICls.tell {c : Nat} {S : AS} {τ : Mem} {T : TD} (h : ICls c S σ) (f : OI 16 σ τ) (hT : CTd τ 16 T) : ICls c (aX S, T, aA S, aI S, aP S, aF S) τ := by
  obtain ⟨h1, h2, h3, h4, h5, h6, h7⟩ := h
  have g2 : ∀ x, τ.2 x = σ.2 x := fun x => by rw [f.1]
  exact ⟨h1.eqs (fun x a b => f.2 x (by omega)) (fun x _ _ => g2 x), hT, h3.eqs (f.2 0 (by omega)) (fun x a _ => f.2 x (by omega)) (fun x _ _ => g2 x), ⟨by rw [f.2 0 (by omega)]; exact h4.1, fun y hy => ⟨(h4.2 y hy).1.eqs (fun x a b => f.2 x (by omega)) (fun x _ _ => g2 x), (h4.2 y hy).2.eqs (f.2 32 (by omega))⟩⟩, ⟨by rw [f.2 0 (by omega)]; exact h5.1, fun p x hp => by rw [f.2 34 (by omega)]; exact h5.2 p x hp⟩, ⟨by rw [f.2 144 (by omega)]; exact h6.1, by rw [f.2 144 (by omega)]; exact h6.2⟩, h7.eqs (fun c _ => by rw [f.2 40 (by omega)]) (fun x hx => f.2 x (by omega)) (fun x _ => g2 x)⟩
/-- what the reference's telling a word changes -/
def FTo (σ τ : Mem) : Prop := τ.2 = σ.2 ∧ (∀ x, x ≠ 306 → x ≠ 318 → τ.1 x = σ.1 x) ∧ ∀ c, c ≠ 27 → τ.1 306 c = σ.1 306 c
theorem IRef.tell {S : AS} {τ : Mem} {T : TD} (h : IRef S σ) (f : FTo σ τ) (hT : RTd τ T) : IRef (aX S, T, aA S, aI S, aP S, aF S) τ := by
  obtain ⟨h1, h2, h3, h4, h5, h6, h7, h8⟩ := h
  have g : ∀ x, x ≠ 306 → x ≠ 318 → τ.1 x = σ.1 x := f.2.1
  have k : ∀ c, c ≠ 27 → τ.1 306 c = σ.1 306 c := f.2.2
  exact ⟨h1.eqs (g 307 (by omega) (by omega)), hT, ⟨by rw [k 3 (by omega)]; exact h3.1, fun j X hj => (h3.2 j X hj).eqs (g 308 (by omega) (by omega))⟩, ⟨by rw [k 37 (by omega)]; exact h4.1, fun y hy => by
    rw [g 323 (by omega) (by omega)]
    exact ⟨(h4.2 y hy).1.eqs (g 323 (by omega) (by omega)), (h4.2 y hy).2⟩⟩, ⟨by rw [k 18 (by omega)]; exact h5.1, fun p x hp => by rw [g 317 (by omega) (by omega)]; exact h5.2 p x hp⟩, ⟨by rw [k 19 (by omega)]; exact h6.1, by rw [k 20 (by omega)]; exact h6.2⟩, h7.eqs (k 9 (by omega)) (k 10 (by omega)) (g 311 (by omega) (by omega)) (by rw [f.1]), fun m hm => by rw [f.1]; exact h8 m hm⟩
theorem FTo.lo {τ : Mem} (f : FTo σ τ) : LO σ τ := fun x hx => ⟨f.2.1 x (by omega) (by omega), by rw [f.1]⟩
def vlt (n b : Nat) : Prop := 97 ≤ b ∧ b < 97 + n
def wdof (w : List Nat) : List Nat := w.map (fun b => b - 97)
theorem i_lt97 {b : Nat} (h : b < 97) : i32 b - 97 < 0 := by
  have h1 : (List.range 97).all (fun k => decide (i32 k - 97 < 0)) = true := by decide +kernel
  exact of_decide_eq_true (List.all_eq_true.mp h1 b (List.mem_range.mpr h))
theorem c_letters {w : List Nat} (hn : gn G ≤ 6) (h0 : σ.1 2 0 = i32 (gn G)) (hl : w.length ≤ 24) (hb : ∀ x : Nat, x ∈ w → x < 256) (hw : ∀ (p x : Nat), w[p]? = some x → σ.1 34 p = i32 x) (hc : CW σ []) : ∃ r, loopO (fun (z11 : (Mem × Int32)) => l_X10_collect_27 (i32 w.length) z11.1 z11.2) (σ, 0) = some r ∧ ∃ τ, FA σ τ ∧ (((∀ x, x ∈ w → vlt (gn G) x) ∧ r = Sum.inl τ ∧ CW τ (wdof w)) ∨ ((¬ ∀ x, x ∈ w → vlt (gn G) x) ∧ r = Sum.inr (-1, τ))) := by
  refine loop_inv (body := fun (z11 : (Mem × Int32)) => l_X10_collect_27 (i32 w.length) z11.1 z11.2) (fun n z => ∃ k τ, k ≤ w.length ∧ n = w.length - k ∧ z = (τ, i32 k) ∧ FA σ τ ∧ CW τ (wdof (w.take k)) ∧ ∀ x, x ∈ w.take k → vlt (gn G) x) _ ?_ w.length (σ, 0) ⟨0, σ, by omega, rfl, rfl, FA.refl, by rw [List.take_zero]; exact hc, fun x hx => by rw [List.take_zero] at hx; cases hx⟩
  rintro n z ⟨k, τ, hk, rfl, rfl, f, c, hv⟩
  by_cases hkn : k = w.length
  · right
    subst hkn
    rw [List.take_length] at c hv
    refine ⟨_, ?_, τ, f, Or.inl ⟨hv, rfl, c⟩⟩
    show l_X10_collect_27 (i32 w.length) τ (i32 w.length) = _
    unfold l_X10_collect_27
    rw [if_pos (i_le (Nat.le_refl _) (by omega))]
  · have hk1 : k < w.length := by omega
    have hgt : w[k]? = some w[k] := List.getElem?_eq_getElem hk1
    have hmem : w[k] ∈ w := List.getElem_mem hk1
    have hb1 := hb _ hmem
    have h34 : τ.1 34 k = i32 w[k] := by rw [f.2.1 34 (by omega) (by omega)]; exact hw k _ hgt
    have h20 : τ.1 2 0 = i32 (gn G) := by rw [f.2.1 2 (by omega) (by omega)]; exact h0
    by_cases hlo : w[k] < 97
    · right
      refine ⟨_, ?_, τ, f, Or.inr ⟨fun q => by have := (q _ hmem).1; omega, rfl⟩⟩
      show l_X10_collect_27 (i32 w.length) τ (i32 k) = _
      unfold l_X10_collect_27
      rw [if_neg (i_nle hk1 (by omega)), e_gI ln_34 (by omega) (by omega), h34, e_bd, if_pos (i_lt97 hlo)]
    · have e97 : i32 w[k] - 97 = i32 (w[k] - 97) := i32_sub (a := w[k]) (b := 97) (by omega)
      have n0 : ¬ i32 (w[k] - 97) < 0 := i_nlt (b := 0) (by omega) (by omega)
      by_cases hhi : w[k] < 97 + gn G
      · left
        obtain ⟨υ, e, f2, c2⟩ := c_add (σ := τ) (x := w[k] - 97) c (by unfold wdof; rw [List.length_map, List.length_take]; omega) (by omega)
        have ht : w.take (k + 1) = w.take k ++ [w[k]] := by rw [List.take_succ, hgt]; rfl
        refine ⟨(υ, i32 (k + 1)), w.length - (k + 1), by omega, ?_, k + 1, υ, by omega, rfl, rfl, f.trans f2, ?_, ?_⟩
        · show l_X10_collect_27 (i32 w.length) τ (i32 k) = _
          unfold l_X10_collect_27
          rw [if_neg (i_nle hk1 (by omega)), e_gI ln_34 (by omega) (by omega), h34, e_bd, e97, if_neg n0, e_gF, h20, if_pos (i_lt (by omega) (by omega)), e, e_bs, i32_1, i32_add]
        · rw [ht]
          unfold wdof
          rw [List.map_append]
          exact c2
        · intro x hx
          rw [ht, List.mem_append, List.mem_singleton] at hx
          rcases hx with hx | hx
          · exact hv x hx
          · rw [hx]; exact ⟨by omega, hhi⟩
      · right
        refine ⟨_, ?_, τ, f, Or.inr ⟨fun q => by have := (q _ hmem).2; omega, rfl⟩⟩
        show l_X10_collect_27 (i32 w.length) τ (i32 k) = _
        unfold l_X10_collect_27
        rw [if_neg (i_nle hk1 (by omega)), e_gI ln_34 (by omega) (by omega), h34, e_bd, e97, if_neg n0, e_gF, h20, if_neg (i_nlt (by omega) (by omega))]
theorem r_looks {w : List Nat} (hG : GOK G) (hM : MG σ G) (hl : w.length ≤ 24) (hb : ∀ x : Nat, x ∈ w → x < 256) (hw : ∀ (p x : Nat), w[p]? = some x → σ.1 317 p = i32 x) : ∃ r, loopO (fun (z22 : Int32) => l_X11_collect_25 (i32 w.length) σ z22) 0 = some r ∧ (((∀ x, x ∈ w → vlt (gn G) x) ∧ r = Sum.inl ()) ∨ ((¬ ∀ x, x ∈ w → vlt (gn G) x) ∧ r = Sum.inr (-1, σ))) := by
  have hn := hG.2.1
  have hn1 := hG.1
  refine loop_inv (body := fun (z22 : Int32) => l_X11_collect_25 (i32 w.length) σ z22) (fun n z => ∃ k, k ≤ w.length ∧ n = w.length - k ∧ z = i32 k ∧ ∀ x, x ∈ w.take k → vlt (gn G) x) _ ?_ w.length 0 ⟨0, by omega, rfl, rfl, fun x hx => by rw [List.take_zero] at hx; cases hx⟩
  rintro n z ⟨k, hk, rfl, rfl, hv⟩
  by_cases hkn : k = w.length
  · right
    subst hkn
    rw [List.take_length] at hv
    refine ⟨_, ?_, Or.inl ⟨hv, rfl⟩⟩
    unfold l_X11_collect_25
    rw [if_pos (i_le (Nat.le_refl _) (by omega))]
  · have hk1 : k < w.length := by omega
    have hgt : w[k]? = some w[k] := List.getElem?_eq_getElem hk1
    have hmem : w[k] ∈ w := List.getElem_mem hk1
    have hb1 := hb _ hmem
    have e := r_in (σ := σ) (x := i32 w[k]) (l := 97) (u := 97 + gn G - 1) ⟨by omega, by omega⟩ ⟨by omega, by omega⟩
    rw [i32_toInt (by omega)] at e
    have eu : (97 + i32 (gn G)).toInt64 - 1 = oi (97 + gn G - 1) := by
      rw [show (97 : Int32) = i32 97 from rfl, i32_add, n64 (by omega), show (1 : Int64) = oi 1 from rfl, oi_sub, show ((97 + gn G : Nat) : Int) = 97 + (gn G : Int) from by omega]
    have hbody : l_X11_collect_25 (i32 w.length) σ (i32 k) = if decide ((97 : Int) ≤ (w[k] : Int) ∧ (w[k] : Int) ≤ 97 + gn G - 1) = true then some (Sum.inl (i32 k + 1)) else some (Sum.inr (Sum.inr (-1, σ))) := by
      unfold l_X11_collect_25
      rw [if_neg (i_nle hk1 (by omega)), e_gI ln_317 (by omega) (by omega), hw k _ hgt, e_n hM, e_bs, eu, show (97 : Int64) = oi 97 from rfl, e, e_bs]
    by_cases hval : vlt (gn G) w[k]
    · left
      have ht : w.take (k + 1) = w.take k ++ [w[k]] := by rw [List.take_succ, hgt]; rfl
      have hv1 := hval.1
      have hv2 := hval.2
      refine ⟨i32 (k + 1), w.length - (k + 1), by omega, ?_, k + 1, by omega, rfl, rfl, ?_⟩
      · rw [hbody, decide_eq_true (by omega), if_pos rfl, i32_1, i32_add]
      · intro x hx
        rw [ht, List.mem_append, List.mem_singleton] at hx
        rcases hx with hx | hx
        · exact hv x hx
        · rw [hx]; exact hval
    · right
      refine ⟨_, ?_, Or.inr ⟨fun q => hval (q _ hmem), rfl⟩⟩
      rw [hbody, decide_eq_false (fun q => hval ⟨by omega, by omega⟩), if_neg (by decide)]
theorem r_writesAll {w : List Nat} (hl : w.length ≤ 24) (hv : ∀ x, x ∈ w → 97 ≤ x) (hb : ∀ x : Nat, x ∈ w → x < 256) (hw : ∀ (p x : Nat), w[p]? = some x → σ.1 317 p = i32 x) (hR : RW σ []) (h7 : σ.1 306 7 = 0) : ∃ τ, loopO (fun (z19 : (Mem × Int32)) => l_X11_collect_77 (i32 w.length) z19.1 z19.2) (σ, 0) = some τ ∧ FX σ τ ∧ RW τ (wdof w) ∧ τ.1 306 7 = 0 := by
  refine loop_inv (body := fun (z19 : (Mem × Int32)) => l_X11_collect_77 (i32 w.length) z19.1 z19.2) (fun n z => ∃ k τ, k ≤ w.length ∧ n = w.length - k ∧ z = (τ, i32 k) ∧ FX σ τ ∧ RW τ (wdof (w.take k)) ∧ τ.1 306 7 = 0) _ ?_ w.length (σ, 0) ⟨0, σ, by omega, rfl, rfl, FX.refl, by rw [List.take_zero]; exact hR, h7⟩
  rintro n z ⟨k, τ, hk, rfl, rfl, f, c, k7⟩
  by_cases hkn : k = w.length
  · right
    subst hkn
    rw [List.take_length] at c
    refine ⟨τ, ?_, f, c, k7⟩
    show l_X11_collect_77 (i32 w.length) τ (i32 w.length) = _
    unfold l_X11_collect_77
    rw [if_pos (i_le (Nat.le_refl _) (by omega))]
  · left
    have hk1 : k < w.length := by omega
    have hgt : w[k]? = some w[k] := List.getElem?_eq_getElem hk1
    have hmem : w[k] ∈ w := List.getElem_mem hk1
    have hb1 := hb _ hmem
    have hv1 := hv _ hmem
    have e97 : i32 w[k] - 97 = i32 (w[k] - 97) := i32_sub (a := w[k]) (b := 97) (by omega)
    have h34 : τ.1 317 k = i32 w[k] := by rw [f.2.1 317 (by omega) (by omega)]; exact hw k _ hgt
    obtain ⟨υ, e, f2, c2, k2⟩ := r_writes (σ := τ) (x := w[k] - 97) c (by unfold wdof; rw [List.length_map, List.length_take]; omega)
    have ht : w.take (k + 1) = w.take k ++ [w[k]] := by rw [List.take_succ, hgt]; rfl
    refine ⟨(υ, i32 (k + 1)), w.length - (k + 1), by omega, ?_, k + 1, υ, by omega, rfl, rfl, f.trans f2, ?_, by rw [k2, k7]⟩
    · show l_X11_collect_77 (i32 w.length) τ (i32 k) = _
      unfold l_X11_collect_77
      rw [if_neg (i_nle hk1 (by omega)), e_gI ln_317 (by omega) (by omega), h34, e97, e, e_bs, i32_1, i32_add]
    · rw [ht]
      unfold wdof
      rw [List.map_append]
      exact c2
theorem r_tells {S : List Nat} (hG : GOK G) (hM : MG σ G) (hR : RW σ S) (hl : S.length ≤ 16000) (hS : ∀ x, x ∈ S → x < gn G) : ∃ τ, loopO (fun (z14 : (Mem × Int32)) => l_X11_collect_121 z14.1 z14.2) (σ, 0) = some τ ∧ OI 318 σ τ ∧ ∀ i, i < gn G → τ.1 318 i = i32 (S.count i) := by
  have hn := hG.2.1
  refine loop_inv (body := fun (z14 : (Mem × Int32)) => l_X11_collect_121 z14.1 z14.2) (fun n z => ∃ k τ, k ≤ gn G ∧ n = gn G - k ∧ z = (τ, i32 k) ∧ OI 318 σ τ ∧ ∀ i, i < k → τ.1 318 i = i32 (S.count i)) _ ?_ (gn G) (σ, 0) ⟨0, σ, by omega, rfl, rfl, ⟨rfl, fun _ _ => rfl⟩, fun i hi => absurd hi (Nat.not_lt_zero _)⟩
  rintro n z ⟨k, τ, hk, rfl, rfl, o, v⟩
  have hMt : MG τ G := by unfold MG; rw [o.2 307 (by omega)]; exact hM
  have hRt : RW τ S := by unfold RW; rw [o.2 306 (by omega), o.2 309 (by omega)]; exact hR
  by_cases hkn : k = gn G
  · right
    subst hkn
    refine ⟨τ, ?_, o, v⟩
    show l_X11_collect_121 τ (i32 (gn G)) = _
    unfold l_X11_collect_121
    rw [e_n hMt, e_bs, if_pos (i_le (Nat.le_refl _) (by omega))]
  · left
    refine ⟨(wI τ 318 k (i32 (S.count k)), i32 (k + 1)), gn G - (k + 1), by omega, ?_, k + 1, _, by omega, rfl, rfl, ⟨o.1, fun x hx => ?_⟩, fun i hi => ?_⟩
    · show l_X11_collect_121 τ (i32 k) = _
      unfold l_X11_collect_121
      rw [e_n hMt, e_bs, if_neg (i_nle (by omega) (by omega)), r_letters hRt hl (by omega) (fun y hy => by have := hS y hy; omega), e_bs, e_pI ln_318 (by omega) (by omega), i32_1, i32_add]
    · funext y; rw [wI_1, if_neg (fun q => hx q.1), o.2 x hx]
    · rw [wI_1]
      by_cases h1 : i = k
      · rw [if_pos ⟨rfl, h1⟩, h1]
      · rw [if_neg (fun q => h1 q.2)]; exact v i (by omega)
theorem RA2 : RA 2 := ⟨⟨by decide +kernel, ln_4⟩, by omega⟩
theorem e_cI26 {α : Type} {f : Mem → Option α} : cI σ 39 0 16 2 6 f = f (cpI σ 39 16 0 2 6) := by
  unfold cI
  have h6 : (6 : Int32).toNatClampNeg = 6 := rfl
  have h2 : (2 : Int32).toNatClampNeg = 2 := rfl
  have h0 : (0 : Int32).toNatClampNeg = 0 := rfl
  rw [h6, h0, h2, ln_39, ln_16, if_pos ⟨⟨by decide, by decide, by decide⟩, by omega, by omega⟩]
theorem cpI26 : OI 16 σ (cpI σ 39 16 0 2 6) ∧ (∀ i, i < 6 → (cpI σ 39 16 0 2 6).1 16 (2 + i) = σ.1 39 i) ∧ ∀ i, i < 2 → (cpI σ 39 16 0 2 6).1 16 i = σ.1 16 i := by
  refine ⟨⟨rfl, fun x hx => ?_⟩, fun i hi => ?_, fun i hi => ?_⟩
  · funext y
    show (if x = 16 then va_cpy (σ.1 39) (σ.1 16) 0 2 6 y else σ.1 x y) = _
    rw [if_neg hx]
  · show (if 16 = 16 then va_cpy (σ.1 39) (σ.1 16) 0 2 6 (2 + i) else σ.1 16 (2 + i)) = _
    rw [if_pos rfl]
    unfold va_cpy
    rw [if_pos ⟨by omega, by omega⟩, show 0 + (2 + i - 2) = i by omega]
  · show (if 16 = 16 then va_cpy (σ.1 39) (σ.1 16) 0 2 6 i else σ.1 16 i) = _
    rw [if_pos rfl]
    unfold va_cpy
    rw [if_neg (by omega)]
theorem ok_15 : Ok_15 II := by
  intro c σ hc ⟨S, ok, h, hr⟩
  have hG : GOK (aG S) := ok.1.1
  have hn : gn (aG S) ≤ 6 := hG.2.1
  have hL : (aP S).length ≤ 200 := ok.2.2.2.2.1
  have hB : ∀ x, x ∈ aP S → x < 256 := ok.2.2.2.2.2
  have h5 : CTape σ (aP S) := h.2.2.2.2.1
  -- both empty their tapes
  obtain ⟨t1, g1⟩ := CTape.cut (n := 0) h5 (Nat.zero_le _)
  have hc1 := h.tape g1 t1
  have k0 : OKS (aX S, aT S, aA S, aI S, (aP S).take 0, aF S) := cut_ok ok 0
  have w1 : ∀ (p x : Nat), (aP S)[p]? = some x → (wI σ 0 7 (i32 0)).1 34 p = i32 x := fun p x hp => by rw [wI_1, if_neg (by omega)]; exact h5.2 p x hp
  have refl : ∀ σ2, HI σ σ2 → ∃ σ3, LO σ2 σ3 ∧ IRef (aX S, aT S, aA S, aI S, (aP S).take 0, aF S) σ3 ∧ (∀ (p x : Nat), (aP S)[p]? = some x → σ3.1 317 p = i32 x) ∧ f_X11_collect σ2 = if i32 (aP S).length ≤ 24 then ((loopO (fun (z22 : Int32) => l_X11_collect_25 (i32 (aP S).length) σ3 z22) 0 : Option (Unit ⊕ (Int32 × Mem))).bind (Sum.elim (fun (z3 : Unit) => j_X11_collect_65 (i32 (aP S).length) σ3) some)) else (some ((-1), σ3)) := by
    intro σ2 hi
    have hr1 := (hr.hi hi).told
    have r1 : RTape (wI σ2 306 0 0) (aP S) := hr1.2.2.2.2.1
    obtain ⟨u1, q1⟩ := RTape.cut (n := 0) r1 (Nat.zero_le _)
    refine ⟨_, (LO.row (by omega)).trans q1.lo, hr1.tape q1 u1, fun p x hp => by rw [wI_1, if_neg (by omega)]; exact r1.2 p x hp, ?_⟩
    unfold f_X11_collect
    rw [e_pF, e_gF, r1.1, e_pF]
    rfl
  unfold f_X10_collect
  rw [e_gF, h5.1, e_pF]
  have e0 : wI σ 0 7 0 = wI σ 0 7 (i32 0) := rfl
  rw [e0]
  by_cases h24 : (aP S).length ≤ 24
  · have c24 : i32 (aP S).length ≤ 24 := (i_le h24 (by omega) : i32 (aP S).length ≤ i32 24)
    rw [if_pos c24]
    obtain ⟨σ2, e2, f2, w2⟩ := c_begin (σ := wI σ 0 7 (i32 0))
    have hc2 := hc1.sc f2.sc
    rw [e2, e_bs]
    obtain ⟨r, e3, σ3, f3, hcase⟩ := c_letters (σ := σ2) (w := aP S) hn hc2.1.1.1 h24 hB (fun p x hp => by rw [f2.2.1 34 (by omega) (by omega)]; exact w1 p x hp) w2
    have hc3 := hc2.sc f3.sc
    have hi3 : HI σ σ3 := g1.hi.trans (f2.sc.hi.trans f3.sc.hi)
    rw [e3, e_bs]
    rcases hcase with ⟨hv, rfl, hw3⟩ | ⟨hv, rfl⟩
    · show ∃ r σ1 σ4, j_X10_collect_76 σ3 = some (r, σ1) ∧ _
      have hwl : (wdof (aP S)).length ≤ 24 := by unfold wdof; rw [List.length_map]; exact h24
      have hwg : ∀ x, x ∈ wdof (aP S) → x < gn (aG S) := fun x hx => by
        obtain ⟨y, hy, rfl⟩ := List.mem_map.mp hx
        have := hv y hy
        have h1 := this.1
        have h2 := this.2
        omega
      obtain ⟨σ4, f4, hrun⟩ := c_run (σ := σ3) (a := 2) hG RA2 hc3.1.1 (L := 1000) (by omega) (w := wdof (aP S)) (by omega) hwg hw3.1 (fun p hp => hw3.2 p _ (List.getElem?_eq_getElem hp))
      have hc4 := hc3.sc f4.sc
      have hi4 : HI σ σ4 := hi3.trans f4.sc.hi
      have rrun : ∀ τ1, IRef (aX S, aT S, aA S, aI S, (aP S).take 0, aF S) τ1 → (∀ (p x : Nat), (aP S)[p]? = some x → τ1.1 317 p = i32 x) → ∃ τ4, True ∧ LO τ1 τ4 ∧ ((∃ W e, col (aG S) 1000 [] (wdof (aP S)) 0 = some (W, e) ∧ IRef (aX S, ((aT S).1, gn (aG S), fun i => i32 (W.count i)), aA S, aI S, (aP S).take 0, aF S) τ4 ∧ j_X11_collect_65 (i32 (aP S).length) τ1 = some (i32 e, τ4)) ∨ (col (aG S) 1000 [] (wdof (aP S)) 0 = none ∧ IRef (aX S, aT S, aA S, aI S, (aP S).take 0, aF S) τ4 ∧ j_X11_collect_65 (i32 (aP S).length) τ1 = some (-2, τ4))) := by
        intro τ1 hr1 v1
        have fx0 : FX τ1 (wI (wI τ1 306 6 0) 306 7 0) := ⟨rfl, fun x h1 _ => by funext y; rw [wI_1, if_neg (fun q => h1 q.1), wI_1, if_neg (fun q => h1 q.1)], fun c h1 h2 => by rw [wI_1, if_neg (fun q => h2 q.2), wI_1, if_neg (fun q => h1 q.2)]⟩
        have rw0 : RW (wI (wI τ1 306 6 0) 306 7 0) [] := ⟨by rw [wI_1, if_neg (by omega), wI_1, if_pos ⟨rfl, rfl⟩]; rfl, fun p x hp => by simp at hp⟩
        have s70 : (wI (wI τ1 306 6 0) 306 7 0).1 306 7 = 0 := by rw [wI_1, if_pos ⟨rfl, rfl⟩]
        generalize hgen : wI (wI τ1 306 6 0) 306 7 0 = τa at fx0 rw0 s70
        obtain ⟨τ2, e7, fx1, rw1, s71⟩ := r_writesAll (σ := τa) (w := aP S) h24 (fun x hx => (hv x hx).1) hB (fun p x hp => by rw [fx0.2.1 317 (by omega) (by omega)]; exact v1 p x hp) rw0 s70
        have fxx := fx0.trans fx1
        have hr2 := hr1.sr fxx.sr
        obtain ⟨b, τ3, e8, fx2, hcase⟩ := r_collects (σ := τ2) hr2.1.mg hG (l := wdof (aP S)) (ex0 := 0) (by omega) hwg rw1 s71 (by omega)
        have hr3 := hr2.sr fx2.sr
        have l3 : LO τ1 τ3 := fxx.sr.lo.trans fx2.sr.lo
        have estep : j_X11_collect_65 (i32 (aP S).length) τ1 = j_X11_collect_101 τ2 := by
          unfold j_X11_collect_65
          rw [e_pF, e_pF, hgen, e7, e_bs]
        rcases hcase with ⟨W, e, hcol, rfl, rwS, e71, hle⟩ | ⟨hcol, rfl⟩
        · have hval := run_val hG _ [] (wdof (aP S)) 0 W e List.Pairwise.nil (fun x hx => by cases hx) hwg hcol
          have hlen := run_len hG _ [] (wdof (aP S)) 0 W e (by omega) hcol
          have hlen2 : W.length ≤ 16000 := by
            have := hlen.2.2
            have h0 : ([] : List Nat).length = 0 := rfl
            omega
          have o27 : MG (wI τ3 306 27 (i32 (gn (aG S)))) (aG S) := by
            unfold MG
            have : (wI τ3 306 27 (i32 (gn (aG S)))).1 307 = τ3.1 307 := by funext y; rw [wI_1, if_neg (by omega)]
            rw [this]
            exact hr3.1.mg
          have rwS2 : RW (wI τ3 306 27 (i32 (gn (aG S)))) W.reverse := ⟨by rw [wI_1, if_neg (by omega)]; exact rwS.1, fun p x hp => by rw [wI_1, if_neg (by omega)]; exact rwS.2 p x hp⟩
          obtain ⟨τ4, e9, o9, v9⟩ := r_tells (σ := wI τ3 306 27 (i32 (gn (aG S)))) hG o27 rwS2 (by rw [List.length_reverse]; exact hlen2) (fun x hx => hval.2.2 x (List.mem_reverse.mp hx))
          have fto : FTo τ3 τ4 := ⟨by rw [o9.1]; rfl, fun x h1 h2 => by rw [o9.2 x h2]; funext y; rw [wI_1, if_neg (fun q => h1 q.1)], fun c hc => by rw [o9.2 306 (by omega), wI_1, if_neg (fun q => hc q.2)]⟩
          refine ⟨τ4, trivial, l3.trans fto.lo, Or.inl ⟨W, e, hcol, hr3.tell fto ⟨?_, ?_, fun i hi => ?_⟩, ?_⟩⟩
          · rw [fto.2.2 4 (by omega)]; exact hr3.2.1.1
          · rw [o9.2 306 (by omega), wI_1, if_pos ⟨rfl, rfl⟩]
          · rw [v9 i hi, List.count_reverse]
          · rw [estep]
            unfold j_X11_collect_101
            rw [e8, e_bq, if_pos rfl, e_n hr3.1.mg, e_bs, e_pF, e9, e_bs]
            unfold j_X11_collect_146
            rw [e_gF, o9.2 306 (by omega), wI_1, if_neg (by omega), e71]
        · refine ⟨τ3, trivial, l3, Or.inr ⟨hcol, hr3, ?_⟩⟩
          rw [estep]
          unfold j_X11_collect_101
          rw [e8, e_bq, if_neg (by decide)]
      unfold j_X10_collect_76
      rcases hrun with ⟨W, e, hcol, hle, e4, hWl, hW⟩ | ⟨hcol, e4⟩
      · have hval := col_cnt hG hwg hcol
        rw [show (1000 : Int32) = i32 1000 from rfl, e4, e_bq, if_neg (show ¬ i32 e = -1 from fun q => by
          have := congrArg Int32.toInt q
          rw [i32_toInt (by omega)] at this
          have h9 : (-1 : Int32).toInt = -1 := by decide
          rw [h9] at this
          omega), e_gF, hc4.1.1.1, i32_1, e_pI ln_16 (k := 1) (by omega) (by omega), e_cI26]
        have hcp := cpI26 (σ := wI σ4 16 1 (i32 (gn (aG S))))
        have o16 : OI 16 σ4 (cpI (wI σ4 16 1 (i32 (gn (aG S)))) 39 16 0 2 6) := ⟨hcp.1.1, fun x hx => by rw [hcp.1.2 x hx]; funext y; rw [wI_1, if_neg (fun q => hx q.1)]⟩
        have hT : CTd (cpI (wI σ4 16 1 (i32 (gn (aG S)))) 39 16 0 2 6) 16 ((aT S).1, gn (aG S), fun i => i32 (W.count i)) := by
          refine ⟨?_, ?_, fun i hi => ?_⟩
          · rw [hcp.2.2 0 (by omega), wI_1, if_neg (by omega)]
            exact hc4.2.1.1
          · rw [hcp.2.2 1 (by omega), wI_1, if_pos ⟨rfl, rfl⟩]
          · have hi' : i < gn (aG S) := hi
            rw [hcp.2.1 i (by omega), wI_1, if_neg (by omega)]
            exact hW i (by omega)
        have hc5 := hc4.tell o16 hT
        have hi5 : HI σ (cpI (wI σ4 16 1 (i32 (gn (aG S)))) 39 16 0 2 6) := hi4.trans (fun x hx => ⟨o16.2 x (by omega), by rw [o16.1]⟩)
        obtain ⟨τ1, l1, hr1, v1, er⟩ := refl _ hi5
        obtain ⟨r2, e6, ⟨_, rfl⟩ | ⟨q, _⟩⟩ := r_looks hG hr1.1.mg h24 hB v1
        rotate_left
        · exact absurd hv q
        obtain ⟨τ4, e9, l9, hr9⟩ := rrun _ hr1 v1
        rcases hr9 with ⟨W', e', hcol', hr10, e11⟩ | ⟨hcol', _⟩
        rotate_left
        · rw [hcol] at hcol'; cases hcol'
        have hWW : W' = W ∧ e' = e := by
          rw [hcol] at hcol'
          have := Option.some.inj hcol'
          exact ⟨(congrArg Prod.fst this).symm, (congrArg Prod.snd this).symm⟩
        obtain ⟨rfl, rfl⟩ := hWW
        refine ⟨i32 e', _, τ4, rfl, ?_, _, ?_, (hc5.lo (l1.trans l9)).up, hr10⟩
        · rw [er, if_pos c24, e6, e_bs]
          exact e11
        · exact ⟨ok.1, hn, ok.2.2.1, ok.2.2.2.1, k0.2.2.2.2⟩
      · rw [show (1000 : Int32) = i32 1000 from rfl, e4, e_bq, if_pos rfl]
        obtain ⟨τ1, l1, hr1, v1, er⟩ := refl _ hi4
        obtain ⟨r2, e6, ⟨_, rfl⟩ | ⟨q, _⟩⟩ := r_looks hG hr1.1.mg h24 hB v1
        rotate_left
        · exact absurd hv q
        obtain ⟨τ4, e9, l9, hr9⟩ := rrun _ hr1 v1
        rcases hr9 with ⟨W', e', hcol', _, _⟩ | ⟨_, hr10, e11⟩
        · rw [hcol] at hcol'; cases hcol'
        refine ⟨-2, σ4, τ4, rfl, ?_, fin_q k0 hc4 hr10 (l1.trans l9)⟩
        rw [er, if_pos c24, e6, e_bs]
        exact e11
    · obtain ⟨τ1, l1, hr1, v1, er⟩ := refl σ3 hi3
      obtain ⟨r2, e6, ⟨q, _⟩ | ⟨_, rfl⟩⟩ := r_looks hG hr1.1.mg h24 hB v1
      · exact absurd q hv
      · refine ⟨-1, σ3, τ1, rfl, ?_, fin_q k0 hc3 hr1 l1⟩
        rw [er, if_pos c24, e6, e_bs]
        rfl
  · have c24 : ¬ i32 (aP S).length ≤ 24 := (i_nle (by omega) (by omega) : ¬ i32 (aP S).length ≤ i32 24)
    rw [if_neg c24]
    obtain ⟨τ1, l1, hr1, v1, er⟩ := refl _ g1.hi
    refine ⟨-1, _, τ1, rfl, ?_, fin_q k0 hc1 hr1 l1⟩
    rw [er, if_neg c24]
end CLL
