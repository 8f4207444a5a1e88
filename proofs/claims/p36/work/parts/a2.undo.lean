/-! acts undone, the image -/
section UND
variable {σ : Mem} {G : GD}
theorem IRef.fewer {S : AS} {X : GR} {L : List GR} (h : IRef S σ) (hA : aA S = X :: L) : IRef (aX S, aT S, L, aI S, aP S, aF S) (wI σ 306 3 (i32 L.length)) := by
  obtain ⟨h1, h2, h3, h4, h5, h6, h7, h8⟩ := h
  have g : ∀ x, x ≠ 306 → (wI σ 306 3 (i32 L.length)).1 x = σ.1 x := fun x hx => by funext y; rw [wI_1, if_neg (fun z => hx z.1)]
  have k : ∀ c, c ≠ 3 → (wI σ 306 3 (i32 L.length)).1 306 c = σ.1 306 c := fun c hc => by rw [wI_1, if_neg (fun z => hc z.2)]
  refine ⟨h1.eqs (g 307 (by omega)), ⟨by rw [k 4 (by omega)]; exact h2.1, by rw [k 27 (by omega)]; exact h2.2.1, fun i hi => by rw [g 318 (by omega)]; exact h2.2.2 i hi⟩, ⟨by rw [wI_1, if_pos ⟨rfl, rfl⟩], fun j Y hj => ?_⟩, ⟨by rw [k 37 (by omega)]; exact h4.1, fun y hy => by
    rw [g 323 (by omega)]
    exact ⟨(h4.2 y hy).1.eqs (g 323 (by omega)), (h4.2 y hy).2⟩⟩, ⟨by rw [k 18 (by omega)]; exact h5.1, fun p x hp => by rw [g 317 (by omega)]; exact h5.2 p x hp⟩, ⟨by rw [k 19 (by omega)]; exact h6.1, by rw [k 20 (by omega)]; exact h6.2⟩, h7.eqs (k 9 (by omega)) (k 10 (by omega)) (g 311 (by omega)) rfl, h8⟩
  have h9 := h3.2 (j + 1) Y (by rw [hA, List.getElem?_cons_succ]; exact hj)
  rw [hA, List.length_cons, show L.length + 1 - 1 - (j + 1) = L.length - 1 - j by omega] at h9
  exact h9.eqs (g 308 (by omega))
theorem i_less1 {n : Nat} (h : n < 2 ^ 31) : i32 (n + 1) - 1 = i32 n := i32_sub (a := n + 1) (b := 1) (by omega)
theorem ok_30 : Ok_30 II := by
  intro c σ hc ⟨S, ok, h, hr⟩
  have hact := h.2.2.1
  obtain ⟨hm, nxt, hn8, h5, hA⟩ := hact
  unfold f_X10_undo
  rw [e_gF, hm]
  cases hL : aA S with
  | nil =>
    rw [if_pos (show i32 ([] : List GR).length = 0 by decide)]
    have f0 : SR σ (wI σ 306 0 0) := SR.fld (by omega)
    refine ⟨-1, σ, wI σ 306 0 0, rfl, ?_, fin_q ok h hr.told f0.lo⟩
    unfold f_X11_undo
    have h3 : (wI σ 306 0 0).1 306 3 = i32 0 := by
      have := hr.told.2.2.1.1
      rw [hL] at this
      exact this
    rw [e_pF, e_gF, h3, if_pos (show i32 0 = 0 from rfl)]
  | cons X L =>
    have h8 : (aA S).length ≤ 8 := ok.2.2.1.1
    rw [hL, List.length_cons] at h8
    have hXok : ROK X := ok.2.2.1.2 X (by rw [hL]; exact List.mem_cons_self ..)
    have hX := hA 0 X (by rw [hL]; rfl)
    have hnx' : (nxt + 7) % 8 < 8 := by omega
    obtain ⟨r33, sa⟩ := SA_act hnx'
    have hcA : cA nxt 0 = 178 + 16 * ((nxt + 7) % 8) := by unfold cA; rw [Nat.sub_zero]
    rw [hcA] at hX
    have hnx : i32 nxt + 8 - 1 - (i32 nxt + 8 - 1) / 8 * 8 = i32 ((nxt + 7) % 8) := by
      have e8 : i32 nxt + 8 - 1 = i32 (nxt + 7) := by
        rw [i32_8, i32_add, i_less1 (n := nxt + 7) (by omega)]
      rw [e8, i_mod8 (by omega)]
    rw [List.length_cons, if_neg (i_ne0 (by omega) (by omega)), e_gF, hm, hL, List.length_cons, i_less1 (by omega), e_pF, e_gF, wI_1, if_neg (by omega), h5, e_nzI (by decide), hnx, e_pF, e_gF, wI_1, if_pos ⟨rfl, rfl⟩, e_gR ln_33 hnx' (by omega), r33]
    have g5 : ∀ x, x ≠ 0 → (wI (wI σ 0 4 (i32 L.length)) 0 5 (i32 ((nxt + 7) % 8))).1 x = σ.1 x := fun x hx => by funext y; rw [wI_1, if_neg (fun z => hx z.1), wI_1, if_neg (fun z => hx z.1)]
    have k5 : ∀ c, c ≠ 4 → c ≠ 5 → (wI (wI σ 0 4 (i32 L.length)) 0 5 (i32 ((nxt + 7) % 8))).1 0 c = σ.1 0 c := fun c c1 c2 => by rw [wI_1, if_neg (fun z => c2 z.2), wI_1, if_neg (fun z => c1 z.2)]
    have a4 : (wI (wI σ 0 4 (i32 L.length)) 0 5 (i32 ((nxt + 7) % 8))).1 0 4 = i32 L.length := by rw [wI_1, if_neg (by omega), wI_1, if_pos ⟨rfl, rfl⟩]
    have a5 : (wI (wI σ 0 4 (i32 L.length)) 0 5 (i32 ((nxt + 7) % 8))).1 0 5 = i32 ((nxt + 7) % 8) := by rw [wI_1, if_pos ⟨rfl, rfl⟩]
    have l5 : (wI (wI σ 0 4 (i32 L.length)) 0 5 (i32 ((nxt + 7) % 8))).2 = σ.2 := rfl
    generalize wI (wI σ 0 4 (i32 L.length)) 0 5 (i32 ((nxt + 7) % 8)) = σ5 at g5 k5 a4 a5 l5
    have hX5 : CB σ5 (178 + 16 * ((nxt + 7) % 8)) X := hX.eqs (fun x b1 _ => g5 x (by omega)) (fun x _ _ => by rw [l5])
    obtain ⟨σ8, e8, b8, f8⟩ := c_takeActed (σ := σ5) sa SA_1 (by omega) hX5
    have F8 : ∀ x, x ≠ 0 → x < 2 ∨ 15 < x → σ8.1 x = σ.1 x ∧ σ8.2 x = σ.2 x := fun x hx hx2 => ⟨by rw [(f8 x (by omega)).1, g5 x hx], by rw [(f8 x (by omega)).2, l5]⟩
    have F80 : σ8.1 0 = σ5.1 0 := (f8 0 (by omega)).1
    have hl8 : CLaw c σ8 (aG S) := h.law.eqs (fun c _ => by rw [(F8 40 (by omega) (by omega)).1]) (fun x hx => (F8 x (by omega) (by omega)).1) (fun x hx => (F8 x (by omega) (by omega)).2)
    obtain ⟨υ, e9, w9, l9⟩ := c_followed hc ok.1.1 hXok.1 hl8 b8.1
    have u0 : υ.1 0 = σ5.1 0 := by rw [(w9 0 (by omega)).1, F80]
    rw [e8, e_bs, e9, e_bs, e_gF, u0, a4]
    have hu : ∀ x, x ≠ 0 → x < 2 ∨ (15 < x ∧ x < 35) ∨ 71 < x → υ.1 x = σ.1 x ∧ υ.2 x = σ.2 x := fun x hx hx2 => ⟨by rw [(w9 x (by omega)).1, (F8 x hx (by omega)).1], by rw [(w9 x (by omega)).2, (F8 x hx (by omega)).2]⟩
    obtain ⟨q2, q3, q4, q5, q6⟩ := h.rest
    have hC : ICls (c + 1) (X, aT S, L, aI S, aP S, aF S) υ := by
      refine ICls.mk (b8.eqs (fun x b1 b2 => (w9 x (by omega)).1) (fun x b1 b2 => (w9 x (by omega)).2)) ⟨q2.eqs (hu 16 (by omega) (by omega)).1, ⟨by rw [u0]; exact a4, (nxt + 7) % 8, hnx', by rw [u0]; exact a5, fun j Y hj => ?_⟩, ⟨by rw [u0, k5 2 (by omega) (by omega)]; exact q4.1, fun y hy => ⟨(q4.2 y hy).1.eqs (fun x a b => (hu x (by omega) (by omega)).1) (fun x a b => (hu x (by omega) (by omega)).2), (q4.2 y hy).2.eqs (hu 32 (by omega) (by omega)).1⟩⟩, ⟨by rw [u0, k5 7 (by omega) (by omega)]; exact q5.1, fun p x hp => by rw [(hu 34 (by omega) (by omega)).1]; exact q5.2 p x hp⟩, by rw [(hu 144 (by omega) (by omega)).1]; exact q6.1, by rw [(hu 144 (by omega) (by omega)).1]; exact q6.2⟩ l9
      have hjl : j < L.length := (List.getElem?_eq_some_iff.mp hj).1
      have h9 := hA (j + 1) Y (by rw [hL, List.getElem?_cons_succ]; exact hj)
      have e10 : cA nxt (j + 1) = cA ((nxt + 7) % 8) j := by unfold cA; omega
      rw [e10] at h9
      have hb : 178 ≤ cA ((nxt + 7) % 8) j := by unfold cA; omega
      exact h9.eqs (fun x b1 b2 => (hu x (by omega) (by omega)).1) (fun x b1 b2 => (hu x (by omega) (by omega)).2)
    have hH : HI σ υ := fun x hx => hu x (by omega) (by omega)
    -- the reference
    have hr1 := (hr.hi hH).told
    have h3 : (wI υ 306 0 0).1 306 3 = i32 (L.length + 1) := by
      have := hr1.2.2.1.1
      rw [hL] at this
      exact this
    have hr4 := hr1.fewer hL
    have hRX : RB (wI υ 306 0 0) 308 (283 * L.length) X := by
      have := hr1.2.2.1.2 0 X (by rw [hL]; rfl)
      rwa [hL, List.length_cons, show L.length + 1 - 1 - 0 = L.length by omega] at this
    obtain ⟨σ6, e6, o6, v6, _⟩ := loop_copyI (σ := wI (wI υ 306 0 0) 306 3 (i32 L.length)) (body := fun (z9 : (Mem × Int32)) => l_X11_undo_26 z9.1 z9.2) (a := 308) (b := 307) (o := 283 * L.length) (p := 0) (N := 283) (by omega) (fun τ k hk o => by
      show l_X11_undo_26 τ (i32 k) = _
      unfold l_X11_undo_26
      rw [i32_283, if_neg (i_nle hk (by omega)), e_gF, o.2 306 (by omega), wI_1, if_pos ⟨rfl, rfl⟩, i32_mul, i32_add, Nat.mul_comm L.length 283, e_gI ln_308 (by omega) (by omega), e_pI ln_307 (by omega) (by omega), i32_1, i32_add, Nat.zero_add]) (fun τ o => by
      show l_X11_undo_26 τ (i32 283) = _
      unfold l_X11_undo_26
      rw [if_pos (by decide)])
    have f7 : FG (wI (wI υ 306 0 0) 306 3 (i32 L.length)) (wI σ6 306 9 0) := o6.fg.trans FG.nine
    have rb7 : RB (wI σ6 306 9 0) 307 0 X := by
      refine (RB.copied hRX (τ := σ6) (b := 307) (p := 0) (fun k hk => ?_)).eqs (by funext y; rw [wI_1, if_neg (by omega)])
      rw [v6 k hk, wI_1, if_neg (by omega)]
    have hr7 := hr4.newX f7 (by rw [wI_1, if_pos ⟨rfl, rfl⟩]) rb7
    refine ⟨i32 L.length, υ, wI σ6 306 9 0, rfl, ?_, (X, aT S, L, aI S, aP S, aF S), ⟨hXok, ok.2.1, ⟨?_, fun Y hY => ok.2.2.1.2 Y (by rw [hL]; exact List.mem_cons_of_mem _ hY)⟩, ok.2.2.2⟩, hC.lo (((LO.row (by omega)).trans (LO.row (by omega))).trans f7.lo), hr7⟩
    · unfold f_X11_undo
      rw [e_pF, e_gF, h3, if_neg (i_ne0 (by omega) (by omega)), e_gF, h3, i_less1 (by omega), e_pF, e6, e_bs]
      unfold j_X11_undo_60
      rw [e_pF, e_gF, wI_1, if_neg (by omega), o6.2 306 (by omega), wI_1, if_pos ⟨rfl, rfl⟩]
    · show L.length ≤ 8
      omega
/-- all of a state taken -/
theorem c_takeAllS {s t : Nat} {X : GR} {T : TD} (hs : SA s) (ht : SA t) (hne : s + 16 ≤ t ∨ t + 16 ≤ s) (h : CB σ s X) (hT : CTd σ (s + 15) T) (hT6 : T.2.1 ≤ 6) : ∃ τ, f_X8_takeAll σ t s = some τ ∧ CB τ t X ∧ CTd τ (t + 15) T ∧ FRg (t + 1) (t + 15) σ τ := by
  unfold f_X8_takeAll
  obtain ⟨σ1, e1, b1, f1⟩ := c_takeActed hs ht hne h
  have hT1 : CTd σ1 (s + 15) T := hT.eqs (f1 _ (by omega)).1
  rw [e1, e_bs, hs.2.2.1, ht.2.2.1, ht.2.2.2.2.2.1, e_cIn hs.2.2.2.2.2.1 ht.2.2.2.2.2.1 (by omega)]
  refine ⟨_, rfl, b1.eqs (fun x q1 q2 => by funext y; rw [cpI_get, if_neg (by omega)]) (fun x _ _ => rfl), ⟨?_, ?_, fun i hi => ?_⟩, fun x hx => ⟨?_, ?_⟩⟩
  · rw [cpI_get, if_pos ⟨rfl, by omega⟩]; exact hT1.1
  · rw [cpI_get, if_pos ⟨rfl, by omega⟩]; exact hT1.2.1
  · rw [cpI_get, if_pos ⟨rfl, by omega⟩]; exact hT1.2.2 i hi
  · have := (f1 x (by omega)).1
    rw [← this]
    funext y; rw [cpI_get, if_neg (by omega)]
  · exact (f1 x (by omega)).2
theorem ok_31 : Ok_31 II := by
  intro c σ tk hc ⟨S, ok, h, hr⟩
  obtain ⟨q2, q3, q4, q5, q6⟩ := h.rest
  have f0 : SR σ (wI σ 306 0 0) := SR.fld (by omega)
  unfold f_X10_image
  cases tk with
  | true =>
    rw [if_pos rfl]
    obtain ⟨σ5, e5, b5, t5, f5⟩ := c_takeAllS (σ := σ) SA_1 SA_17 (by omega) h.1 q2 ok.2.1
    rw [e5, e_bs, e_pF]
    have F : ∀ x, x ≠ 0 → x < 18 ∨ 32 < x → (wI σ5 0 2 1).1 x = σ.1 x ∧ (wI σ5 0 2 1).2 x = σ.2 x := fun x hx hx2 => ⟨by rw [← (f5 x (by omega)).1]; funext y; rw [wI_1, if_neg (fun z => hx z.1)], by rw [← (f5 x (by omega)).2]; rfl⟩
    have k : ∀ c, c ≠ 2 → (wI σ5 0 2 1).1 0 c = σ.1 0 c := fun c hc => by rw [wI_1, if_neg (fun z => hc z.2), (f5 0 (by omega)).1]
    have a2 : (wI σ5 0 2 1).1 0 2 = 1 := by rw [wI_1, if_pos ⟨rfl, rfl⟩]
    have i18 : ∀ x, 18 ≤ x → x ≤ 32 → (wI σ5 0 2 1).1 x = σ5.1 x := fun x h1 h2 => by funext y; rw [wI_1, if_neg (by omega)]
    have l18 : (wI σ5 0 2 1).2 = σ5.2 := rfl
    generalize wI σ5 0 2 1 = σ6 at F k a2 i18 l18
    have hC : ICls (c + 1) (aX S, aT S, aA S, some (aX S, aT S), aP S, aF S) σ6 := by
      refine ICls.up (ICls.mk (h.1.eqs (fun x b1 b2 => (F x (by omega) (by omega)).1) (fun x b1 b2 => (F x (by omega) (by omega)).2)) ⟨q2.eqs (F 16 (by omega) (by omega)).1, ?_, ⟨by rw [a2]; rfl, fun y hy => ?_⟩, ⟨by rw [k 7 (by omega)]; exact q5.1, fun p x hp => by rw [(F 34 (by omega) (by omega)).1]; exact q5.2 p x hp⟩, by rw [(F 144 (by omega) (by omega)).1]; exact q6.1, by rw [(F 144 (by omega) (by omega)).1]; exact q6.2⟩ (h.law.eqs (fun c _ => by rw [(F 40 (by omega) (by omega)).1]) (fun x hx => (F x (by omega) (by omega)).1) (fun x hx => (F x (by omega) (by omega)).2)))
      · obtain ⟨a1, nxt, b2, b3, b4⟩ := q3
        refine ⟨by rw [k 4 (by omega)]; exact a1, nxt, b2, by rw [k 5 (by omega)]; exact b3, fun j Y hj => (b4 j Y hj).eqs (fun x c1 c2 => ?_) (fun x c1 c2 => ?_)⟩
        · unfold cA at c1 c2
          exact (F x (by omega) (by omega)).1
        · unfold cA at c1 c2
          exact (F x (by omega) (by omega)).2
      · cases hy
        exact ⟨b5.eqs (fun x c1 c2 => i18 x (by omega) (by omega)) (fun x _ _ => by rw [l18]), t5.eqs (i18 32 (by omega) (by omega))⟩
    have hH : HI σ σ6 := fun x hx => F x (by omega) (by omega)
    have hr1 := (hr.hi hH).told
    have s2 : SR (wI σ6 306 0 0) (wI σ6 306 0 0) := SR.refl
    obtain ⟨τ3, e3, o3', v3, w3⟩ := loop_copyI (σ := wI (wI σ6 306 0 0) 306 37 1) (body := fun (z30 : (Mem × Int32)) => l_X11_image_29 z30.1 z30.2) (a := 307) (b := 323) (o := 0) (p := 0) (N := 283) (by omega) (fun τ k hk o => by
      show l_X11_image_29 τ (i32 k) = _
      unfold l_X11_image_29
      rw [i32_283, if_neg (i_nle hk (by omega)), e_gI ln_307 (by omega) (by omega), e_pI ln_323 (by omega) (by omega), i32_1, i32_add, Nat.zero_add]) (fun τ o => by
      show l_X11_image_29 τ (i32 283) = _
      unfold l_X11_image_29
      rw [if_pos (by decide)])
    obtain ⟨τ4, e4, o4, v4, w4⟩ := loop_copyI (σ := τ3) (body := fun (z26 : (Mem × Int32)) => l_X11_image_56 z26.1 z26.2) (a := 318) (b := 323) (o := 0) (p := 283) (N := 6) (by omega) (fun τ k hk o => by
      show l_X11_image_56 τ (i32 k) = _
      unfold l_X11_image_56
      rw [i32_6, if_neg (i_nle hk (by omega)), e_gI ln_318 (by omega) (by omega), i32_283, i32_add, e_pI ln_323 (by omega) (by omega), i32_1, i32_add, Nat.zero_add]) (fun τ o => by
      show l_X11_image_56 τ (i32 6) = _
      unfold l_X11_image_56
      rw [if_pos (by decide)])
    have O4 : OI 323 (wI (wI σ6 306 0 0) 306 37 1) τ4 := ⟨o4.1.trans o3'.1, fun x hx => (o4.2 x hx).trans (o3'.2 x hx)⟩
    have t306 : ∀ c, c ≠ 37 → τ4.1 306 c = (wI σ6 306 0 0).1 306 c := fun c hc => by rw [O4.2 306 (by omega), wI_1, if_neg (fun z => hc z.2)]
    have g : ∀ x, x ≠ 306 → x ≠ 323 → τ4.1 x = (wI σ6 306 0 0).1 x := fun x h1 h2 => by rw [O4.2 x h2]; funext y; rw [wI_1, if_neg (fun z => h1 z.1)]
    obtain ⟨r1, r2, r3, r4, r5, r6, r7, r8⟩ := hr1
    refine ⟨true, σ6, wI (wI τ4 323 289 (τ4.1 306 27)) 323 290 (τ4.1 306 4), rfl, ?_, (aX S, aT S, aA S, some (aX S, aT S), aP S, aF S), ⟨ok.1, ok.2.1, ok.2.2.1, fun Y hY => by cases hY; exact ⟨ok.1, ok.2.1⟩, ok.2.2.2.2⟩, hC.lo (fun x hx => ⟨?_, ?_⟩), ?_⟩
    · unfold f_X11_image
      rw [e_pF, if_pos rfl, e_bs]
      show j_X11_image_18 true (wI σ6 306 0 0) = _
      unfold j_X11_image_18
      rw [e_pF, if_pos rfl, e3, e_bs]
      unfold j_X11_image_54
      rw [e4, e_bs]
      unfold j_X11_image_84
      rw [e_gF, show (289 : Int32) = i32 289 from rfl, show (290 : Int32) = i32 290 from rfl, e_pI ln_323 (by omega) (by omega), e_gF, e_pI ln_323 (by omega) (by omega), wI_1, if_neg (by omega)]
    · funext y
      rw [wI_1, if_neg (by omega), wI_1, if_neg (by omega), g x (by omega) (by omega), wI_1, if_neg (by omega)]
    · rw [wI_2, wI_2, O4.1]
      rfl
    · have G9 : ∀ x, x ≠ 306 → x ≠ 323 → (wI (wI τ4 323 289 (τ4.1 306 27)) 323 290 (τ4.1 306 4)).1 x = (wI σ6 306 0 0).1 x := fun x h1 h2 => by
        rw [← g x h1 h2]; funext y; rw [wI_1, if_neg (fun z => h2 z.1), wI_1, if_neg (fun z => h2 z.1)]
      have K9 : ∀ c, c ≠ 37 → (wI (wI τ4 323 289 (τ4.1 306 27)) 323 290 (τ4.1 306 4)).1 306 c = (wI σ6 306 0 0).1 306 c := fun c hc => by
        rw [wI_1, if_neg (by omega), wI_1, if_neg (by omega), t306 c hc]
      have L9 : (wI (wI τ4 323 289 (τ4.1 306 27)) 323 290 (τ4.1 306 4)).2 = (wI σ6 306 0 0).2 := O4.1
      refine ⟨r1.eqs (G9 307 (by omega) (by omega)), ⟨by rw [K9 4 (by omega)]; exact r2.1, by rw [K9 27 (by omega)]; exact r2.2.1, fun i hi => by rw [G9 318 (by omega) (by omega)]; exact r2.2.2 i hi⟩, ⟨by rw [K9 3 (by omega)]; exact r3.1, fun j Y hj => (r3.2 j Y hj).eqs (G9 308 (by omega) (by omega))⟩, ⟨?_, fun y hy => ?_⟩, ⟨by rw [K9 18 (by omega)]; exact r5.1, fun p x hp => by rw [G9 317 (by omega) (by omega)]; exact r5.2 p x hp⟩, ⟨by rw [K9 19 (by omega)]; exact r6.1, by rw [K9 20 (by omega)]; exact r6.2⟩, r7.eqs (K9 9 (by omega)) (K9 10 (by omega)) (G9 311 (by omega) (by omega)) (by rw [L9]), fun m hm => by rw [L9]; exact r8 m hm⟩
      · rw [wI_1, if_neg (by omega), wI_1, if_neg (by omega), O4.2 306 (by omega), wI_1, if_pos ⟨rfl, rfl⟩]; rfl
      · cases hy
        refine ⟨r1.copied (fun k hk => ?_), ?_, ?_, fun i hi => ?_⟩
        · rw [wI_1, if_neg (by omega), wI_1, if_neg (by omega), w4 _ (by omega), v3 k hk, wI_1, if_neg (by omega)]
        · rw [wI_1, if_pos ⟨rfl, rfl⟩, t306 4 (by omega)]; exact r2.1
        · rw [wI_1, if_neg (by omega), wI_1, if_pos ⟨rfl, rfl⟩, t306 27 (by omega)]; exact r2.2.1
        · have hi6 : i < 6 := Nat.lt_of_lt_of_le hi ok.2.1
          rw [wI_1, if_neg (by omega), wI_1, if_neg (by omega), v4 i hi6, o3'.2 318 (by omega), wI_1, if_neg (by omega), Nat.zero_add]
          exact r2.2.2 i hi
  | false =>
    rw [if_neg (by decide), e_gZ q4.1]
    cases hI : aI S with
    | none =>
      rw [show (none : Option (GR × TD)).isSome = false from rfl, if_neg (by decide)]
      refine ⟨false, σ, wI σ 306 0 0, rfl, ?_, fin_q ok h hr.told f0.lo⟩
      unfold f_X11_image
      have hz : (wI σ 306 0 0).1 306 37 = b2i false := by
        have := hr.told.2.2.2.1.1
        rw [hI] at this
        exact this
      rw [e_pF, if_neg (by decide), e_gZ hz, if_neg (by decide), e_bs]
      rfl
    | some y =>
      rw [show (some y : Option (GR × TD)).isSome = true from rfl, if_pos rfl]
      obtain ⟨b17, t32⟩ := q4.2 y hI
      obtain ⟨hyok, hy6⟩ := ok.2.2.2.1 y hI
      obtain ⟨σ2, e2, b2, t2, f2⟩ := c_takeAllS (σ := σ) SA_17 SA_1 (by omega) b17 t32 hy6
      rw [e2, e_bs, e_pF]
      have F : ∀ x, x ≠ 0 → x < 2 ∨ 16 < x → (wI σ2 0 4 0).1 x = σ.1 x ∧ (wI σ2 0 4 0).2 x = σ.2 x := fun x hx hx2 => ⟨by rw [← (f2 x (by omega)).1]; funext z; rw [wI_1, if_neg (fun q => hx q.1)], by rw [← (f2 x (by omega)).2]; rfl⟩
      have k : ∀ c, c ≠ 4 → (wI σ2 0 4 0).1 0 c = σ.1 0 c := fun c hc => by rw [wI_1, if_neg (fun z => hc z.2), (f2 0 (by omega)).1]
      have a4 : (wI σ2 0 4 0).1 0 4 = 0 := by rw [wI_1, if_pos ⟨rfl, rfl⟩]
      have b3 : CB (wI σ2 0 4 0) 1 y.1 := b2.eqs (fun x c1 c2 => by funext z; rw [wI_1, if_neg (by omega)]) (fun x _ _ => rfl)
      have t3 : CTd (wI σ2 0 4 0) 16 y.2 := t2.eqs (by funext z; rw [wI_1, if_neg (by omega)])
      generalize wI σ2 0 4 0 = σ3 at F k a4 b3 t3
      have hl3 : CLaw c σ3 (aG S) := h.law.eqs (fun c _ => by rw [(F 40 (by omega) (by omega)).1]) (fun x hx => (F x (by omega) (by omega)).1) (fun x hx => (F x (by omega) (by omega)).2)
      obtain ⟨υ, e9, w9, l9⟩ := c_followed hc ok.1.1 hyok.1 hl3 b3.1
      rw [e9, e_bs]
      have u0 : υ.1 0 = σ3.1 0 := (w9 0 (by omega)).1
      have hu : ∀ x, x ≠ 0 → x < 2 ∨ (16 < x ∧ x < 35) ∨ 71 < x → υ.1 x = σ.1 x ∧ υ.2 x = σ.2 x := fun x hx hx2 => ⟨by rw [(w9 x (by omega)).1, (F x hx (by omega)).1], by rw [(w9 x (by omega)).2, (F x hx (by omega)).2]⟩
      have hC : ICls (c + 1) (y.1, y.2, [], aI S, aP S, aF S) υ := by
        refine ICls.mk (b3.eqs (fun x c1 c2 => (w9 x (by omega)).1) (fun x c1 c2 => (w9 x (by omega)).2)) ⟨t3.eqs (w9 16 (by omega)).1, ?_, ⟨by rw [u0, k 2 (by omega)]; exact q4.1, fun y hy => ⟨(q4.2 y hy).1.eqs (fun x a b => (hu x (by omega) (by omega)).1) (fun x a b => (hu x (by omega) (by omega)).2), (q4.2 y hy).2.eqs (hu 32 (by omega) (by omega)).1⟩⟩, ⟨by rw [u0, k 7 (by omega)]; exact q5.1, fun p x hp => by rw [(hu 34 (by omega) (by omega)).1]; exact q5.2 p x hp⟩, by rw [(hu 144 (by omega) (by omega)).1]; exact q6.1, by rw [(hu 144 (by omega) (by omega)).1]; exact q6.2⟩ l9
        obtain ⟨a1, nxt, c2, c3, c4⟩ := q3
        exact ⟨by rw [u0, a4]; rfl, nxt, c2, by rw [u0, k 5 (by omega)]; exact c3, fun j Y (hj : ([] : List GR)[j]? = some Y) => by simp at hj⟩
      have hH : HI σ υ := fun x hx => hu x (by omega) (by omega)
      have hr1 := (hr.hi hH).told
      obtain ⟨r1, r2, r3, r4, r5, r6, r7, r8⟩ := hr1
      obtain ⟨ri1, ri2, ri3, ri4⟩ := r4.2 y hI
      obtain ⟨τ3, e3, o3', v3, w3⟩ := loop_copyI (σ := wI (wI υ 306 0 0) 306 37 1) (body := fun (z16 : (Mem × Int32)) => l_X11_image_112 z16.1 z16.2) (a := 323) (b := 307) (o := 0) (p := 0) (N := 283) (by omega) (fun τ k hk o => by
        show l_X11_image_112 τ (i32 k) = _
        unfold l_X11_image_112
        rw [i32_283, if_neg (i_nle hk (by omega)), e_gI ln_323 (by omega) (by omega), e_pI ln_307 (by omega) (by omega), i32_1, i32_add, Nat.zero_add]) (fun τ o => by
        show l_X11_image_112 τ (i32 283) = _
        unfold l_X11_image_112
        rw [if_pos (by decide)])
      obtain ⟨τ4, e4, o4, v4, w4⟩ := loop_copyI (σ := τ3) (body := fun (z12 : (Mem × Int32)) => l_X11_image_139 z12.1 z12.2) (a := 323) (b := 318) (o := 283) (p := 0) (N := 6) (by omega) (fun τ k hk o => by
        show l_X11_image_139 τ (i32 k) = _
        unfold l_X11_image_139
        rw [i32_6, if_neg (i_nle hk (by omega)), i32_283, i32_add, e_gI ln_323 (by omega) (by omega), e_pI ln_318 (by omega) (by omega), i32_1, i32_add, Nat.zero_add]) (fun τ o => by
        show l_X11_image_139 τ (i32 6) = _
        unfold l_X11_image_139
        rw [if_pos (by decide)])
      have g4 : ∀ x, x ≠ 306 → x ≠ 307 → x ≠ 318 → τ4.1 x = (wI υ 306 0 0).1 x := fun x h1 h2 h3 => by rw [o4.2 x h3, o3'.2 x h2]; funext z; rw [wI_1, if_neg (fun q => h1 q.1)]
      have k4 : ∀ c, c ≠ 37 → τ4.1 306 c = (wI υ 306 0 0).1 306 c := fun c hc => by rw [o4.2 306 (by omega), o3'.2 306 (by omega), wI_1, if_neg (fun z => hc z.2)]
      have k37 : τ4.1 306 37 = 1 := by rw [o4.2 306 (by omega), o3'.2 306 (by omega), wI_1, if_pos ⟨rfl, rfl⟩]
      have l4 : τ4.2 = (wI υ 306 0 0).2 := o4.1.trans o3'.1
      have e323 : τ4.1 323 = (wI υ 306 0 0).1 323 := g4 323 (by omega) (by omega) (by omega)
      generalize hτ9 : wI (wI (wI (wI τ4 306 27 (τ4.1 323 289)) 306 4 (τ4.1 323 290)) 306 3 0) 306 9 0 = τ9
      have g9 : ∀ x, x ≠ 306 → τ9.1 x = τ4.1 x := fun x hx => by
        rw [← hτ9]; funext z; rw [wI_1, if_neg (fun q => hx q.1), wI_1, if_neg (fun q => hx q.1), wI_1, if_neg (fun q => hx q.1), wI_1, if_neg (fun q => hx q.1)]
      have k9 : ∀ c, c ≠ 27 → c ≠ 4 → c ≠ 3 → c ≠ 9 → τ9.1 306 c = τ4.1 306 c := fun c h1 h2 h3 h4 => by
        rw [← hτ9, wI_1, if_neg (fun q => h4 q.2), wI_1, if_neg (fun q => h3 q.2), wI_1, if_neg (fun q => h2 q.2), wI_1, if_neg (fun q => h1 q.2)]
      have k27 : τ9.1 306 27 = τ4.1 323 289 := by rw [← hτ9, wI_1, if_neg (by omega), wI_1, if_neg (by omega), wI_1, if_neg (by omega), wI_1, if_pos ⟨rfl, rfl⟩]
      have k04 : τ9.1 306 4 = τ4.1 323 290 := by rw [← hτ9, wI_1, if_neg (by omega), wI_1, if_neg (by omega), wI_1, if_pos ⟨rfl, rfl⟩]
      have k03 : τ9.1 306 3 = 0 := by rw [← hτ9, wI_1, if_neg (by omega), wI_1, if_pos ⟨rfl, rfl⟩]
      have k09 : τ9.1 306 9 = 0 := by rw [← hτ9, wI_1, if_pos ⟨rfl, rfl⟩]
      have l9' : τ9.2 = (wI υ 306 0 0).2 := by rw [← hτ9]; exact l4
      refine ⟨true, υ, τ9, rfl, ?_, (y.1, y.2, [], aI S, aP S, aF S), ⟨hyok, hy6, ⟨Nat.zero_le _, fun Y hY => by cases hY⟩, ok.2.2.2⟩, hC.lo (fun x hx => ⟨?_, ?_⟩), ?_⟩
      · unfold f_X11_image
        have hz : (wI υ 306 0 0).1 306 37 = b2i true := by
          have := r4.1
          rw [hI] at this
          exact this
        rw [e_pF, if_neg (by decide), e_gZ hz, if_pos rfl, e_bs]
        show j_X11_image_18 false (wI υ 306 0 0) = _
        unfold j_X11_image_18
        rw [e_pF, if_neg (by decide), e3, e_bs]
        unfold j_X11_image_137
        rw [e4, e_bs]
        unfold j_X11_image_167
        rw [show (289 : Int32) = i32 289 from rfl, show (290 : Int32) = i32 290 from rfl, e_gI ln_323 (by omega) (by omega), e_pF, e_gI ln_323 (by omega) (by omega), wI_1, if_neg (by omega), e_pF, e_pF, e_pF, hτ9]
      · rw [g9 x (by omega), g4 x (by omega) (by omega) (by omega)]
        funext z; rw [wI_1, if_neg (by omega)]
      · rw [l9']; rfl
      · refine ⟨ri1.copied (fun k hk => ?_), ⟨by rw [k04, e323]; exact ri2, by rw [k27, e323]; exact ri3, fun i hi => ?_⟩, ⟨by rw [k03]; rfl, fun j Y (hj : ([] : List GR)[j]? = some Y) => by simp at hj⟩, ⟨?_, fun z hz => ?_⟩, ⟨by rw [k9 18 (by omega) (by omega) (by omega) (by omega), k4 18 (by omega)]; exact r5.1, fun p x hp => by rw [g9 317 (by omega), g4 317 (by omega) (by omega) (by omega)]; exact r5.2 p x hp⟩, ⟨by rw [k9 19 (by omega) (by omega) (by omega) (by omega), k4 19 (by omega)]; exact r6.1, by rw [k9 20 (by omega) (by omega) (by omega) (by omega), k4 20 (by omega)]; exact r6.2⟩, ⟨false, k09, fun z => absurd z (by decide)⟩, fun m hm => by rw [l9']; exact r8 m hm⟩
        · rw [g9 307 (by omega), o4.2 307 (by omega), v3 k hk, wI_1, if_neg (by omega)]
        · have hi6 : i < 6 := Nat.lt_of_lt_of_le hi hy6
          have := v4 i hi6
          rw [Nat.zero_add] at this
          rw [g9 318 (by omega), this, o3'.2 323 (by omega), wI_1, if_neg (by omega)]
          exact ri4 i hi
        · rw [k9 37 (by omega) (by omega) (by omega) (by omega), k37, hI]; rfl
        · have hz' : y = z := Option.some.inj (hI.symm.trans hz)
          subst hz'
          rw [g9 323 (by omega), e323]
          exact ⟨ri1.eqs (by rw [g9 323 (by omega), e323]), ri2, ri3, ri4⟩
end UND
