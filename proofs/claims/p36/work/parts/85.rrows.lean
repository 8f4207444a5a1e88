/-! the reference's terms -/
section RR
variable {G : GD} {σ : Mem}
theorem r_mod {a n : Nat} (ha : a < 12) (h1 : 1 ≤ n) (h6 : n ≤ 6) : i32 a - i32 a / i32 n * i32 n = i32 (a % n) := by
  have key : (List.range 12).all (fun a => (List.range 7).all (fun n => !(decide (1 ≤ n)) || decide (i32 a - i32 a / i32 n * i32 n = i32 (a % n)))) = true := by decide
  have h2 := List.all_eq_true.mp key a (List.mem_range.mpr ha)
  have h3 := List.all_eq_true.mp h2 n (List.mem_range.mpr (by omega))
  rw [decide_eq_true h1] at h3
  simpa using h3
theorem r_weightOf (h : MG σ G) (hG : GOK G) {a : Nat} (ha : a < 2 * gn G) : f_X11_weightOf σ (i32 a) = some (i32 (gw G (a % gn G))) := by
  have hn := hG.2.1
  have h1 := hG.1
  unfold f_X11_weightOf
  have hm : a % gn G < gn G := Nat.mod_lt _ (by omega)
  rw [e_n h, e_bs, e_nzI (i_ne0 (by omega) (by omega)), r_mod (by omega) h1 hn, e_weight h (by omega), e_bs]
noncomputable def okT (G : GD) (k : Nat) (e : List Nat) : Bool := decide (¬ oi (cf G k e) = 0)
/-- the terms of the polynomial of k, in their order -/
noncomputable def Tk (G : GD) (k : Nat) : List (List Nat) := (pts (wl G) (gw G k)).filter (okT G k)
/-- the reference holds these terms of k -/
def RT (G : GD) (σ : Mem) (k : Nat) (T : List (List Nat)) : Prop := σ.1 311 k = i32 T.length ∧ ∀ (t : Nat) (e : List Nat), T[t]? = some e → e.length = 2 * gn G ∧ σ.2 312 (9100 * k + 13 * t) = oi (cf G k e) ∧ ∀ (p x : Nat), e[p]? = some x → σ.2 312 (9100 * k + 13 * t + 1 + p) = oi (x : Int)
def FRw (σ τ : Mem) (k m : Nat) : Prop := (∀ x, x ≠ 311 → x ≠ 315 → x ≠ 316 → τ.1 x = σ.1 x) ∧ (∀ q, q ≠ k → τ.1 311 q = σ.1 311 q) ∧ (∀ p, p < m → τ.1 315 p = σ.1 315 p) ∧ (∀ x, x ≠ 312 → x ≠ 313 → τ.2 x = σ.2 x) ∧ ∀ y, y < 9100 * k ∨ 9100 * (k + 1) ≤ y → τ.2 312 y = σ.2 312 y
theorem FRw.refl {k m : Nat} : FRw σ σ k m := ⟨fun _ _ _ _ => rfl, fun _ _ => rfl, fun _ _ => rfl, fun _ _ _ => rfl, fun _ _ => rfl⟩
theorem FRw.trans {τ υ : Mem} {k m : Nat} (h : FRw σ τ k m) (h' : FRw τ υ k m) : FRw σ υ k m := ⟨fun x h1 h2 h3 => (h'.1 x h1 h2 h3).trans (h.1 x h1 h2 h3), fun q hq => (h'.2.1 q hq).trans (h.2.1 q hq), fun p hp => (h'.2.2.1 p hp).trans (h.2.2.1 p hp), fun x h1 h2 => (h'.2.2.2.1 x h1 h2).trans (h.2.2.2.1 x h1 h2), fun y hy => (h'.2.2.2.2 y hy).trans (h.2.2.2.2 y hy)⟩
theorem FRw.mono {τ : Mem} {k m m' : Nat} (h : FRw σ τ k m) (hm : m' ≤ m) : FRw σ τ k m' := ⟨h.1, h.2.1, fun p hp => h.2.2.1 p (by omega), h.2.2.2⟩
theorem FDf.frw {τ : Mem} {k m m' : Nat} (h : FDf σ τ m') : FRw σ τ k m := ⟨fun x _ _ h3 => h.1 x h3, fun q _ => by rw [h.1 311 (by omega)], fun p _ => by rw [h.1 315 (by omega)], fun x _ h2 => h.2.2 x h2, fun y _ => by rw [h.2.2 312 (by omega)]⟩
theorem MG.frw {τ : Mem} {k m : Nat} (h : MG σ G) (f : FRw σ τ k m) : MG τ G := by
  unfold MG
  rw [f.1 307 (by omega) (by omega) (by omega)]
  exact h
theorem M0.frw {τ : Mem} {k m : Nat} (h : M0 σ) (f : FRw σ τ k m) : M0 τ := fun i hi => by rw [f.2.2.2.1 314 (by omega) (by omega)]; exact h i hi
theorem RT.fdf {τ : Mem} {k m : Nat} {T : List (List Nat)} (h : RT G σ k T) (f : FDf σ τ m) : RT G τ k T := by
  unfold RT
  rw [f.1 311 (by omega), f.2.2 312 (by omega)]
  exact h
/-- a term is written -/
theorem r_store {rec : Mem → Int32 → Int32 → Int32 → Option Mem} (h : MG σ G) (hG : GOK G) {k : Nat} (hk : k < gn G) {T : List (List Nat)} {e : List Nat} (hT : RT G σ k T) (hl : T.length < 700) (he : e.length = 2 * gn G) (hd : RN σ 315 0 e) (h3 : ∀ d, d ∈ e → d ≤ 3) :
    ∃ τ, gI σ 311 (i32 k) (fun (v12 : Int32) => bd ((9100 * i32 k) + (13 * v12)) (fun (v13 : Int32) => pL σ 312 v13 (oi (cf G k e)) (fun (σ14 : Mem) => (loopO (fun (z19 : (Mem × Int32)) => l_X11_rows_56 rec v13 z19.1 z19.2) (σ14, 0) : Option Mem).bind (fun (z15 : Mem) => j_X11_rows_93 rec (i32 k) z15)))) = some τ ∧ FRw σ τ k (2 * gn G) ∧ RT G τ k (T ++ [e]) := by
  have hn := hG.2.1
  have ea : (9100 : Int32) * i32 k + 13 * i32 T.length = i32 (9100 * k + 13 * T.length) := by
    rw [show (9100 : Int32) = i32 9100 from rfl, show (13 : Int32) = i32 13 from rfl, i32_mul, i32_mul, i32_add]
  rw [e_gI ln_311 (by omega) (by omega), hT.1, e_bd, ea, e_pL ln_312 (by omega) (by omega)]
  have hl' := loop_inv (body := fun (z19 : (Mem × Int32)) => l_X11_rows_56 rec (i32 (9100 * k + 13 * T.length)) z19.1 z19.2) (fun n z => ∃ i τ, i ≤ 2 * gn G ∧ n = 2 * gn G - i ∧ z = (τ, i32 i) ∧ τ.1 = σ.1 ∧ (∀ x, x ≠ 312 → τ.2 x = σ.2 x) ∧ (∀ y, y < 9100 * k + 13 * T.length ∨ 9100 * k + 13 * T.length + 13 ≤ y → τ.2 312 y = σ.2 312 y) ∧ τ.2 312 (9100 * k + 13 * T.length) = oi (cf G k e) ∧ ∀ (p x : Nat), p < i → e[p]? = some x → τ.2 312 (9100 * k + 13 * T.length + 1 + p) = oi (x : Int)) (fun τ => τ.1 = σ.1 ∧ (∀ x, x ≠ 312 → τ.2 x = σ.2 x) ∧ (∀ y, y < 9100 * k + 13 * T.length ∨ 9100 * k + 13 * T.length + 13 ≤ y → τ.2 312 y = σ.2 312 y) ∧ τ.2 312 (9100 * k + 13 * T.length) = oi (cf G k e) ∧ ∀ (p x : Nat), p < 2 * gn G → e[p]? = some x → τ.2 312 (9100 * k + 13 * T.length + 1 + p) = oi (x : Int)) ?_ (2 * gn G) (wL σ 312 (9100 * k + 13 * T.length) (oi (cf G k e)), 0) ⟨0, _, Nat.zero_le _, rfl, rfl, rfl, fun x hx => by funext y; rw [wL_2, if_neg (fun z => hx z.1)], fun y hy => by rw [wL_2, if_neg (by omega)], by rw [wL_2, if_pos ⟨rfl, rfl⟩], fun p x hp => absurd hp (Nat.not_lt_zero _)⟩
  · obtain ⟨τ, e1, a1, a2, a3, a4, a5⟩ := hl'
    rw [e1, e_bs]
    unfold j_X11_rows_93
    have e311 : τ.1 311 k = i32 T.length := by rw [a1]; exact hT.1
    refine ⟨wI τ 311 k (i32 (T.length + 1)), by rw [e_gI ln_311 (by omega) (by omega), e311, e_pI ln_311 (by omega) (by omega), i32_1, i32_add], ⟨fun x h1 _ _ => ?_, fun q hq => ?_, fun p _ => ?_, fun x h1 _ => ?_, fun y hy => ?_⟩, ?_, fun t r hr => ?_⟩
    · funext y; rw [wI_1, if_neg (fun z => h1 z.1), a1]
    · rw [wI_1, if_neg (fun z => hq z.2), a1]
    · rw [wI_1, if_neg (by omega), a1]
    · rw [wI_2, a2 x h1]
    · rw [wI_2, a3 y (by omega)]
    · rw [wI_1, if_pos ⟨rfl, rfl⟩, List.length_append]; rfl
    · rw [wI_2]
      by_cases h5 : t < T.length
      · rw [List.getElem?_append_left h5] at hr
        have := hT.2 t r hr
        refine ⟨this.1, by rw [a3 _ (by omega)]; exact this.2.1, fun p x hp => ?_⟩
        have h6 : p < r.length := (List.getElem?_eq_some_iff.mp hp).1
        rw [a3 _ (by omega)]
        exact this.2.2 p x hp
      · rw [List.getElem?_append_right (by omega)] at hr
        by_cases h6 : t = T.length
        · subst h6
          rw [Nat.sub_self] at hr
          cases hr
          refine ⟨he, a4, fun p x hp => a5 p x ?_ hp⟩
          rw [← he]
          exact (List.getElem?_eq_some_iff.mp hp).1
        · rw [List.getElem?_eq_none (by simp only [List.length_cons, List.length_nil]; omega)] at hr
          cases hr
  · rintro n z ⟨i, τ, hi, rfl, rfl, a1, a2, a3, a4, a5⟩
    have hM : MG τ G := by unfold MG; rw [a1]; exact h
    by_cases hin : i = 2 * gn G
    · right
      subst hin
      refine ⟨τ, ?_, a1, a2, a3, a4, a5⟩
      show l_X11_rows_56 rec (i32 (9100 * k + 13 * T.length)) τ (i32 (2 * gn G)) = _
      unfold l_X11_rows_56
      rw [e_n hM, e_bs, i32_2, i32_mul, if_pos (i_le (Nat.le_refl _) (by omega))]
    · left
      have hg : e[i]? = some (e[i]'(by omega)) := List.getElem?_eq_getElem (by omega)
      have hx3 := h3 _ (List.getElem_mem (l := e) (n := i) (by omega))
      have hx := hd i _ hg
      rw [Nat.zero_add] at hx
      generalize e[i]'(by omega) = c at hg hx3 hx
      refine ⟨(wL τ 312 (9100 * k + 13 * T.length + 1 + i) (oi (c : Int)), i32 (i + 1)), 2 * gn G - (i + 1), by omega, ?_, i + 1, _, by omega, rfl, rfl, a1, fun x hx => ?_, fun y hy => ?_, ?_, fun p x hp hpx => ?_⟩
      · show l_X11_rows_56 rec (i32 (9100 * k + 13 * T.length)) τ (i32 i) = _
        unfold l_X11_rows_56
        rw [e_n hM, e_bs, i32_2, i32_mul, if_neg (i_nle (by omega) (by omega)), e_gI ln_315 (by omega) (by omega), a1, hx, i32_1, i32_add, i32_add, e_pL ln_312 (by omega) (by omega), i32_add, i32_64 (by omega)]
        rfl
      · funext y; rw [wL_2, if_neg (fun z => hx z.1), a2 x hx]
      · rw [wL_2, if_neg (by omega), a3 y hy]
      · rw [wL_2, if_neg (by omega), a4]
      · rw [wL_2]
        by_cases h5 : p = i
        · subst h5
          rw [if_pos ⟨rfl, rfl⟩]
          rw [hg] at hpx
          cases hpx; rfl
        · rw [if_neg (by omega)]
          exact a5 p x (by omega) hpx
theorem pts_cons {w : Nat} {ws : List Nat} {left : Nat} : pts (w :: ws) left = (List.range' 0 (left / w + 1)).flatMap (fun d => (pts ws (left - d * w)).map (fun e => d :: e)) := rfl
theorem r_rows (hG : GOK G) {k : Nat} (hk : k < gn G) : ∀ (ws WA : List Nat) (fuel : Nat) (σ : Mem) (pre : List Nat) (left : Nat) (T : List (List Nat)), MG σ G → M0 σ → wl G = WA ++ ws → WA.length = pre.length → pwt WA pre + left ≤ gw G k → RN σ 315 0 pre → RT G σ k T → T.length + (pts ws left).length ≤ 700 → ws.length < fuel →
    ∃ τ, f_X11_rows fuel σ (i32 k) (i32 pre.length) (i32 left) = some τ ∧ FRw σ τ k pre.length ∧ RT G τ k (T ++ ((pts ws left).map (fun e => pre ++ e)).filter (okT G k)) := by
  have hn := hG.2.1
  have hwk := hG.2.2.1 k hk
  intro ws
  induction ws with
  | nil =>
    intro WA fuel σ pre left T h h0 hW hA hwt hd hT hl hf
    obtain ⟨fuel, rfl⟩ : ∃ q, fuel = q + 1 := ⟨fuel - 1, by simp only [List.length_nil] at hf; omega⟩
    rw [List.append_nil] at hW
    have hpl : pre.length = 2 * gn G := by rw [← hA, ← hW, wl_len]
    have hmem : pre ∈ pts (wl G) (gw G k) := (pts_mem _ _ _ (wl_pos hG)).mpr ⟨by rw [hpl, wl_len], by rw [hW]; omega⟩
    have h3 : ∀ d, d ∈ pre → d ≤ 3 := fun d hd2 => by
      have := wt_deg (wl G) pre (wl_pos hG) (by rw [hpl, wl_len]) d hd2
      rw [hW] at this
      omega
    obtain ⟨τ1, e1, f1⟩ := r_diff hG hk pre 14 σ [] 1 h h0 (by simpa using hpl) (fun d hd2 => by cases hd2) h3 (fun p x hp => by simp at hp) (by simpa using hd) (by omega)
    have hcf : Dd pre (fun xs => Fk G k (ints [] ++ xs)) = cf G k pre := (cf_ok hG hk).2.diff (wl_pos hG) (by omega) hmem
    rw [hcf, Int64.one_mul] at e1
    show ∃ τ, o_X11_rows (f_X11_rows fuel) σ (i32 k) (i32 pre.length) (i32 left) = some τ ∧ _
    unfold o_X11_rows
    rw [e_n h, e_bs, hpl, i32_2, i32_mul, if_pos rfl]
    have e1' : f_X11_difference 14 σ (i32 k) 0 1 = some (oi (cf G k pre), τ1) := e1
    rw [e1', e_bq]
    have hmap : ((pts [] left).map (fun e => pre ++ e)).filter (okT G k) = if okT G k pre = true then [pre] else [] := by
      show ([pre ++ []]).filter (okT G k) = _
      rw [List.append_nil, List.filter_cons, List.filter_nil]
    rw [hmap]
    by_cases hz : oi (cf G k pre) = 0
    · have hok : okT G k pre = false := by unfold okT; rw [hz]; rfl
      rw [if_pos hz, hok, if_neg (by decide), List.append_nil]
      exact ⟨τ1, rfl, f1.frw, hT.fdf f1⟩
    · have hok : okT G k pre = true := by unfold okT; exact decide_eq_true hz
      rw [if_neg hz, hok, if_pos rfl]
      obtain ⟨τ2, e2, f2, t2⟩ := r_store (rec := f_X11_rows fuel) (h.fdf f1) hG hk (hT.fdf f1) (by have : (pts [] left).length = 1 := rfl; omega) hpl (fun p x hp => by rw [f1.1 315 (by omega)]; exact hd p x hp) h3
      exact ⟨τ2, e2, f1.frw.trans f2, t2⟩
  | cons w ws ih =>
    intro WA fuel σ pre left T h h0 hW hA hwt hd hT hl hf
    simp only [List.length_cons] at hf
    obtain ⟨fuel, rfl⟩ : ∃ q, fuel = q + 1 := ⟨fuel - 1, by omega⟩
    have hlen : WA.length + (ws.length + 1) = 2 * gn G := by
      have := congrArg List.length hW
      rw [wl_len, List.length_append, List.length_cons] at this
      omega
    have hw1 : 1 ≤ w := wl_pos hG w (by rw [hW]; exact List.mem_append_right _ (List.mem_cons_self ..))
    have hwg : gw G (pre.length % gn G) = w := by
      have h1 : (wl G).getD pre.length 0 = w := by
        rw [hW, List.getD_eq_getElem?_getD, List.getElem?_append_right (by omega), hA, Nat.sub_self]; rfl
      rw [← h1]
      unfold wl
      rw [lst_getD (by omega), Nat.zero_add]
    have hw3 : w ≤ 3 := by
      rw [← hwg]
      exact (hG.2.2.1 _ (Nat.mod_lt _ (by have := hG.1; omega))).2
    have hle : left ≤ 3 := by omega
    show ∃ τ, o_X11_rows (f_X11_rows fuel) σ (i32 k) (i32 pre.length) (i32 left) = some τ ∧ _
    unfold o_X11_rows
    rw [e_n h, e_bs, i32_2, i32_mul, if_neg (i_ne (by omega) (by omega) (by omega))]
    have hq : left / w ≤ 3 := Nat.le_trans (Nat.div_le_self _ _) hle
    have hl' := loop_inv (body := fun (z5 : (Mem × Int32)) => l_X11_rows_111 (f_X11_rows fuel) (i32 k) (i32 pre.length) (i32 left) z5.1 z5.2) (fun n z => ∃ d τ, d ≤ left / w + 1 ∧ n = left / w + 1 - d ∧ z = (τ, i32 d) ∧ FRw σ τ k pre.length ∧ RT G τ k (T ++ (((List.range' 0 d).flatMap (fun d => (pts ws (left - d * w)).map (fun e => d :: e))).map (fun e => pre ++ e)).filter (okT G k))) (fun τ => FRw σ τ k pre.length ∧ RT G τ k (T ++ ((pts (w :: ws) left).map (fun e => pre ++ e)).filter (okT G k))) ?_ (left / w + 1) (σ, 0) ⟨0, σ, Nat.zero_le _, rfl, rfl, FRw.refl, by simpa using hT⟩
    · obtain ⟨τ, e1, f1, t1⟩ := hl'
      rw [e1, e_bs]
      unfold j_X11_rows_155
      refine ⟨wI τ 315 pre.length 0, by rw [e_pI ln_315 (by omega) (by omega)], ⟨fun x h1 h2 h3 => ?_, fun q hq => ?_, fun p hp => ?_, f1.2.2.2⟩, ?_⟩
      · funext y; rw [wI_1, if_neg (fun z => h2 z.1), f1.1 x h1 h2 h3]
      · rw [wI_1, if_neg (by omega), f1.2.1 q hq]
      · rw [wI_1, if_neg (by omega), f1.2.2.1 p hp]
      · unfold RT
        rw [wI_1, if_neg (by omega), wI_2]
        exact t1
    · rintro n z ⟨d, τ, hd1, rfl, rfl, f, t⟩
      by_cases hdq : d = left / w + 1
      · right
        subst hdq
        refine ⟨τ, ?_, f, by rw [pts_cons]; exact t⟩
        show l_X11_rows_111 (f_X11_rows fuel) (i32 k) (i32 pre.length) (i32 left) τ (i32 (left / w + 1)) = _
        unfold l_X11_rows_111
        have h5 : left < (left / w + 1) * w := by
          have := Nat.lt_div_mul_add (a := left) (b := w) (by omega)
          rw [Nat.add_mul, Nat.one_mul]; exact this
        have h6 : (left / w + 1) * w ≤ 4 * 3 := Nat.mul_le_mul (by omega) hw3
        rw [r_weightOf (h.frw f) hG (by omega), e_bs, hwg, i32_mul, if_pos (i_lt h5 (by omega))]
      · left
        have h5 : d * w ≤ left := (Nat.le_div_iff_mul_le (by omega)).mp (by omega)
        have f6 : FRw τ (wI τ 315 pre.length (i32 d)) k pre.length := ⟨fun x h1 h2 h3 => by funext y; rw [wI_1, if_neg (fun z => h2 z.1)], fun q _ => by rw [wI_1, if_neg (by omega)], fun p hp => by rw [wI_1, if_neg (by omega)], fun _ _ _ => rfl, fun _ _ => rfl⟩
        have F6 := f.trans f6
        have rn6 : RN (wI τ 315 pre.length (i32 d)) 315 0 (pre ++ [d]) := fun p x hp => by
          rw [wI_1]
          by_cases h7 : p < pre.length
          · rw [if_neg (by omega), Nat.zero_add, f.2.2.1 p h7]
            rw [List.getElem?_append_left h7] at hp
            have := hd p x hp
            rwa [Nat.zero_add] at this
          · rw [List.getElem?_append_right (by omega)] at hp
            by_cases h8 : p = pre.length
            · subst h8
              rw [Nat.sub_self] at hp
              cases hp
              rw [if_pos ⟨rfl, by omega⟩]
            · rw [List.getElem?_eq_none (by simp only [List.length_cons, List.length_nil]; omega)] at hp
              cases hp
        have t6 : RT G (wI τ 315 pre.length (i32 d)) k (T ++ (((List.range' 0 d).flatMap (fun d => (pts ws (left - d * w)).map (fun e => d :: e))).map (fun e => pre ++ e)).filter (okT G k)) := by
          unfold RT
          rw [wI_1, if_neg (by omega), wI_2]
          exact t
        have hsplit : (List.range' 0 (d + 1)).flatMap (fun d => (pts ws (left - d * w)).map (fun e => d :: e)) = (List.range' 0 d).flatMap (fun d => (pts ws (left - d * w)).map (fun e => d :: e)) ++ (pts ws (left - d * w)).map (fun e => d :: e) := by
          rw [List.range'_concat, List.flatMap_append, Nat.one_mul, Nat.zero_add, List.flatMap_cons, List.flatMap_nil, List.append_nil]
        have hroom : (T ++ (((List.range' 0 d).flatMap (fun d => (pts ws (left - d * w)).map (fun e => d :: e))).map (fun e => pre ++ e)).filter (okT G k)).length + (pts ws (left - d * w)).length ≤ 700 := by
          have h7 : (List.range' 0 (left / w + 1)).flatMap (fun d => (pts ws (left - d * w)).map (fun e => d :: e)) = (List.range' 0 (d + 1)).flatMap (fun d => (pts ws (left - d * w)).map (fun e => d :: e)) ++ (List.range' (d + 1) (left / w - d)).flatMap (fun d => (pts ws (left - d * w)).map (fun e => d :: e)) := by
            rw [show left / w + 1 = (d + 1) + (left / w - d) by omega, ← List.range'_append_1, Nat.zero_add, List.flatMap_append]
          rw [pts_cons, h7, hsplit, List.length_append, List.length_append, List.length_map] at hl
          rw [List.length_append]
          have h8 := List.length_filter_le (okT G k) (((List.range' 0 d).flatMap (fun d => (pts ws (left - d * w)).map (fun e => d :: e))).map (fun e => pre ++ e))
          rw [List.length_map] at h8
          omega
        obtain ⟨υ, e7, f7, t7⟩ := ih (WA ++ [w]) fuel (wI τ 315 pre.length (i32 d)) (pre ++ [d]) (left - d * w) _ (h.frw F6) (h0.frw F6) (by rw [hW, List.append_assoc]; rfl) (by rw [List.length_append, List.length_append, hA]; rfl) (by
          rw [wt_app _ _ _ _ hA.symm]
          show pwt WA pre + (d * w + 0) + _ ≤ _
          omega) rn6 t6 hroom (by omega)
        rw [List.length_append, List.length_cons, List.length_nil] at e7 f7
        refine ⟨(υ, i32 (d + 1)), left / w + 1 - (d + 1), by omega, ?_, d + 1, υ, by omega, rfl, rfl, F6.trans (f7.mono (by omega)), ?_⟩
        · show l_X11_rows_111 (f_X11_rows fuel) (i32 k) (i32 pre.length) (i32 left) τ (i32 d) = _
          unfold l_X11_rows_111
          have h6 : d * w ≤ 3 * 3 := Nat.mul_le_mul (by omega) hw3
          rw [r_weightOf (h.frw f) hG (by omega), e_bs, hwg, i32_mul, if_neg (i_nlt h5 (by omega)), e_pI ln_315 (by omega) (by omega), r_weightOf (h.frw F6) hG (by omega), e_bs, hwg, i32_mul, i32_sub h5, i32_1, i32_add, e7, e_bs, i32_add]
        · rw [hsplit, List.map_append, List.filter_append, ← List.append_assoc]
          have hm : ((pts ws (left - d * w)).map (fun e => d :: e)).map (fun e => pre ++ e) = (pts ws (left - d * w)).map (fun e => (pre ++ [d]) ++ e) := by
            rw [List.map_map]
            refine List.map_congr_left (fun e _ => ?_)
            show pre ++ (d :: e) = (pre ++ [d]) ++ e
            rw [List.append_assoc]; rfl
          rw [hm]
          exact t7
end RR
