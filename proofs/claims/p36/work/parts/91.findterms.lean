/-! the class finds its terms -/
section FT2
variable {G : GD} {σ : Mem}
noncomputable def TS (G : GD) (k : Nat) (P : List (List Nat)) : List (List Nat) := (P.filter (fun e => decide (pwt (wl G) e ≤ gw G k))).filter (okT G k)
theorem TS_app {k : Nat} {P : List (List Nat)} {e : List Nat} : TS G k (P ++ [e]) = TS G k P ++ (if pwt (wl G) e ≤ gw G k ∧ okT G k e = true then [e] else []) := by
  unfold TS
  rw [List.filter_append, List.filter_append]
  congr 1
  rw [List.filter_cons, List.filter_nil]
  by_cases h1 : pwt (wl G) e ≤ gw G k
  · rw [decide_eq_true h1, if_pos rfl, List.filter_cons, List.filter_nil]
    by_cases h2 : okT G k e = true
    · rw [if_pos h2, if_pos ⟨h1, h2⟩]
    · rw [if_neg h2, if_neg (fun z => h2 z.2)]
  · rw [decide_eq_false h1, if_neg (by decide), if_neg (fun z => h1 z.1)]
    rfl
theorem TS_len {k : Nat} {P : List (List Nat)} : (TS G k P).length ≤ P.length := Nat.le_trans (List.length_filter_le _ _) (List.length_filter_le _ _)
theorem TS_all (hG : GOK G) {k : Nat} (hk : k < gn G) : TS G k (pts (wl G) (topG G)) = Tk G k := by
  unfold TS Tk
  rw [pts_filter _ _ _ (wl_pos hG) (topG_ge hG hk)]
def CTs (G : GD) (σ : Mem) (P : List (List Nat)) : Prop := ∀ k, k < 6 → CT G σ k (if k < gn G then TS G k P else [])
def FQ (σ τ : Mem) : Prop := (∀ x, x < 35 ∨ 71 < x ∨ (40 ≤ x ∧ x ≤ 46) → τ.1 x = σ.1 x) ∧ ∀ x, x < 35 ∨ 71 < x → τ.2 x = σ.2 x
theorem FQ.refl : FQ σ σ := ⟨fun _ _ => rfl, fun _ _ => rfl⟩
theorem FQ.trans {τ υ : Mem} (h : FQ σ τ) (k : FQ τ υ) : FQ σ υ := ⟨fun x h1 => (k.1 x h1).trans (h.1 x h1), fun x h1 => (k.2 x h1).trans (h.2 x h1)⟩
theorem FP.fq {τ : Mem} (h : FP σ τ) : FQ σ τ := ⟨fun x hx => h.1 x (by omega) (by omega), fun x hx => h.2.2 x (by omega)⟩
theorem FO.fq {τ : Mem} (h : FO σ τ) : FQ σ τ := ⟨fun x hx => h.2 x (by omega) (by omega) (by omega) (by omega) (by omega) (by omega), fun x _ => by rw [h.1]⟩
theorem FS.fq {τ : Mem} {k : Nat} (hk : k < 6) (h : FS k σ τ) : FQ σ τ := ⟨fun x hx => h.1 x (by omega) (by omega) (by omega), fun x hx => h.2 x (by omega)⟩
theorem CG.fq {τ : Mem} (h : CG σ 41 G) (k : FQ σ τ) : CG τ 41 G := by
  unfold CG
  rw [k.1 41 (by omega), k.1 (41 + 1) (by omega), k.1 (41 + 2) (by omega)]
  exact h
theorem CT.of {τ : Mem} {k : Nat} {T : List (List Nat)} (h : CT G σ k T) (h1 : τ.1 (48 + 4 * k) = σ.1 (48 + 4 * k)) (h2 : τ.1 (49 + 4 * k) = σ.1 (49 + 4 * k)) (h3 : τ.2 (50 + 4 * k) = σ.2 (50 + 4 * k)) (h4 : τ.1 (51 + 4 * k) = σ.1 (51 + 4 * k)) : CT G τ k T := by
  unfold CT
  rw [h1, h2, h3, h4]
  exact h
theorem CT.fs {τ : Mem} {k q : Nat} {T : List (List Nat)} (h : CT G σ q T) (f : FS k σ τ) (hq : q ≠ k) : CT G τ q T :=
  h.of (f.1 _ (by omega) (by omega) (by omega)) (f.1 _ (by omega) (by omega) (by omega)) (f.2 _ (by omega)) (f.1 _ (by omega) (by omega) (by omega))
theorem TS_mem (hG : GOK G) {k : Nat} {P R : List (List Nat)} {e' : List Nat} (hP : pts (wl G) (topG G) = P ++ R) (he : e' ∈ TS G k P) : e' ∈ Tk G k ∧ e' ∈ pts (wl G) (gw G k) := by
  unfold TS at he
  obtain ⟨h1, h2⟩ := List.mem_filter.mp he
  obtain ⟨h3, h4⟩ := List.mem_filter.mp h1
  have h5 : e' ∈ pts (wl G) (topG G) := by rw [hP]; exact List.mem_append_left _ h3
  have h6 := (pts_mem _ _ _ (wl_pos hG)).mp h5
  have h7 : e' ∈ pts (wl G) (gw G k) := (pts_mem _ _ _ (wl_pos hG)).mpr ⟨h6.1, of_decide_eq_true h4⟩
  exact ⟨List.mem_filter.mpr ⟨h7, h2⟩, h7⟩
theorem c_atPoint (hG : GOK G) (h : CG σ 41 G) {P R : List (List Nat)} {e : List Nat} (hP : pts (wl G) (topG G) = P ++ e :: R) (hR : ∀ r, r ∈ R → (∀ d, d ∈ r → d ≤ 3) → Bn r (ints e) = 0) (hpt : PT G σ e) (hpw : σ.1 40 6 = i32 (pwt (wl G) e)) (hC : CTs G σ P) :
    ∃ τ, f_X4_findTermsAtPoint σ = some τ ∧ FQ σ τ ∧ CTs G τ (P ++ [e]) := by
  have hn := hG.2.1
  have ht := topG_le hG
  have hem : e ∈ pts (wl G) (topG G) := by rw [hP]; exact List.mem_append_right _ (List.mem_cons_self ..)
  have he := (pts_mem _ _ _ (wl_pos hG)).mp hem
  have hel : e.length = 2 * gn G := by rw [he.1, wl_len]
  have hd3 : ∀ v, v < 12 → dg G e v ≤ 3 := fun v _ => dg_le (G := G) (pts_le3 hG ht.2 hem) v
  have hwl := Nat.le_trans (wd_len3 hG hem) ht.2
  have hPl : P.length < 455 := by
    have := pts_small hG (L := topG G) ht.2
    rw [hP, List.length_append, List.length_cons] at this
    omega
  unfold f_X4_findTermsAtPoint
  obtain ⟨σ1, e1, f1, c1⟩ := c_begin (σ := σ)
  obtain ⟨σ2, e2, f2, c2, t2⟩ := c_load12 (σ := σ1) (d := dg G e) hd3 (fun v hv => by rw [f1.2.1 45 (by omega) (by omega)]; exact hpt v hv) hwl c1
  have F2 : FQ σ σ2 := f1.fp.fq.trans f2.fq
  obtain ⟨σ3, ex, e3, f3, _, S, hS, hSl, hcount⟩ := c_runAll hG (h.fq F2) (by omega) (wd_mem hG) c2 (wd_col hG hwl (wd_mem hG))
  have F3 := F2.trans f3.fq
  rw [e1, e_bs, e2, e_bs]
  show ∃ τ, j_X4_findTermsAtPoint_80 σ2 (i32 (ky (dg G e) 12)) = some τ ∧ _
  unfold j_X4_findTermsAtPoint_80
  rw [e3, e_bq]
  have hC3 : CTs G σ3 P := fun k hk => (hC k hk).of (by rw [f3.2 _ (by omega) (by omega) (by omega) (by omega) (by omega) (by omega), f2.1 _ (by omega) (by omega), f1.2.1 _ (by omega) (by omega)]) (by rw [f3.2 _ (by omega) (by omega) (by omega) (by omega) (by omega) (by omega), f2.1 _ (by omega) (by omega), f1.2.1 _ (by omega) (by omega)]) (by rw [f3.1, f2.2.2 _ (by omega), f1.1]) (by rw [f3.2 _ (by omega) (by omega) (by omega) (by omega) (by omega) (by omega), f2.1 _ (by omega) (by omega), f1.2.1 _ (by omega) (by omega)])
  have t3 : ∀ v, v < 12 → σ3.2 46 (4 * v) = oi 1 ∧ σ3.2 46 (4 * v + 1) = oi (dg G e v : Int) ∧ σ3.2 46 (4 * v + 2) = oi (two (dg G e v : Int)) := fun v hv => by rw [f3.1]; exact t2 v hv
  have hl := loop_inv (body := fun (z7 : (Mem × Int32)) => l_X4_findTermsAtPoint_97 (i32 (ky (dg G e) 12)) z7.1 z7.2) (fun n z => ∃ k τ, k ≤ gn G ∧ n = gn G - k ∧ z = (τ, i32 k) ∧ FQ σ3 τ ∧ τ.1 39 = σ3.1 39 ∧ τ.2 46 = σ3.2 46 ∧ ∀ q, q < 6 → CT G τ q (if q < gn G then (if q < k then TS G q (P ++ [e]) else TS G q P) else [])) (fun τ => FQ σ3 τ ∧ CTs G τ (P ++ [e])) ?_ (gn G) (σ3, 0) ⟨0, σ3, Nat.zero_le _, by omega, rfl, FQ.refl, rfl, rfl, fun q hq => by
      have := hC3 q hq
      by_cases h1 : q < gn G
      · rw [if_pos h1] at this
        rw [if_pos h1, if_neg (Nat.not_lt_zero _)]; exact this
      · rw [if_neg h1] at this
        rw [if_neg h1]; exact this⟩
  · obtain ⟨τ, e4, f4, C4⟩ := hl
    exact ⟨τ, e4, F3.trans f4, C4⟩
  · rintro n z ⟨k, τ, hk, rfl, rfl, f, f39, f46, hCk⟩
    have m := (h.fq F3).fq f
    have pw : τ.1 40 6 = i32 (pwt (wl G) e) := by rw [f.1 40 (by omega), F3.1 40 (by omega)]; exact hpw
    by_cases hkn : k = gn G
    · right
      subst hkn
      refine ⟨τ, ?_, f, fun q hq => ?_⟩
      · show l_X4_findTermsAtPoint_97 _ τ (i32 (gn G)) = _
        unfold l_X4_findTermsAtPoint_97
        rw [e_gF, m.1, if_pos (i_le (Nat.le_refl _) (by omega))]
      · have := hCk q hq
        by_cases h1 : q < gn G
        · rw [if_pos h1, if_pos h1] at this
          rw [if_pos h1]; exact this
        · rw [if_neg h1] at this
          rw [if_neg h1]; exact this
    · left
      have hkn' : k < gn G := by omega
      have hwk := hG.2.2.1 k hkn'
      have hck := hCk k (by omega)
      rw [if_pos hkn', if_neg (Nat.lt_irrefl k)] at hck
      -- what is next, once the terms of k are right
      have next : ∀ υ, (∀ x, (x < 35 ∨ 71 < x ∨ (40 ≤ x ∧ x ≤ 46)) → υ.1 x = τ.1 x) → (∀ x, x < 35 ∨ 71 < x → υ.2 x = τ.2 x) → υ.1 39 = τ.1 39 → υ.2 46 = τ.2 46 → CT G υ k (TS G k (P ++ [e])) → (∀ q, q ≠ k → ∀ T, CT G τ q T → CT G υ q T) → ∃ s' n', n' < gn G - k ∧ (some υ : Option Mem).bind (fun (z11 : Mem) => j_X4_findTermsAtPoint_169 (i32 k) z11) = some (Sum.inl s') ∧ ∃ k τ, k ≤ gn G ∧ n' = gn G - k ∧ s' = (τ, i32 k) ∧ FQ σ3 τ ∧ τ.1 39 = σ3.1 39 ∧ τ.2 46 = σ3.2 46 ∧ ∀ q, q < 6 → CT G τ q (if q < gn G then (if q < k then TS G q (P ++ [e]) else TS G q P) else []) := by
        intro υ u1 u2 u3 u4 u5 u6
        refine ⟨(υ, i32 (k + 1)), gn G - (k + 1), by omega, ?_, k + 1, υ, by omega, rfl, rfl, f.trans ⟨u1, u2⟩, u3.trans f39, u4.trans f46, fun q hq => ?_⟩
        · rw [e_bs]
          unfold j_X4_findTermsAtPoint_169
          rw [i32_1, i32_add]
        · by_cases h1 : q = k
          · rw [h1, if_pos hkn', if_pos (Nat.lt_succ_self k)]; exact u5
          · have h2 := u6 q h1 _ (hCk q hq)
            by_cases h3 : q < gn G
            · rw [if_pos h3] at h2
              rw [if_pos h3]
              by_cases h4 : q < k
              · rw [if_pos h4] at h2
                rw [if_pos (by omega)]; exact h2
              · rw [if_neg h4] at h2
                rw [if_neg (by omega)]; exact h2
            · rw [if_neg h3] at h2
              rw [if_neg h3]; exact h2
      have hstart : ∀ {x : Option Mem} {y}, (if i32 (pwt (wl G) e) ≤ i32 (gw G k) then (gI τ 39 (i32 k) (fun (v12 : Int32) => gR 44 (i32 k) (fun (p13 : Nat) => (f_X9_value τ p13 46).bind (fun (v14 : Int64) => bd ((Int32.toInt64 v12) - v14) (fun (v15 : Int64) => if v15 = 0 then (some τ) else (gR 44 (i32 k) (fun (p16 : Nat) => (f_X9_append τ p16 (i32 (ky (dg G e) 12)) v15).bind (fun (σ17 : Mem) => some σ17)))))))) else (some τ) : Option Mem) = x → x.bind (fun (z11 : Mem) => j_X4_findTermsAtPoint_169 (i32 k) z11) = y → l_X4_findTermsAtPoint_97 (i32 (ky (dg G e) 12)) τ (i32 k) = y := by
        intro x y hx hy
        unfold l_X4_findTermsAtPoint_97
        rw [e_gF, m.1, if_neg (i_nle hkn' (by omega)), e_gI ln_42 (by omega) (by omega), m.2.1 k (by omega), e_gF, pw, hx, hy]
      by_cases hc : pwt (wl G) e ≤ gw G k
      · have hPk : pts (wl G) (gw G k) = P.filter (fun r => decide (pwt (wl G) r ≤ gw G k)) ++ e :: R.filter (fun r => decide (pwt (wl G) r ≤ gw G k)) := by
          rw [← pts_filter (wl G) (topG G) (gw G k) (wl_pos hG) (topG_ge hG hkn'), hP, List.filter_append, List.filter_cons, decide_eq_true hc, if_pos rfl]
        have hval := (cf_ok hG hkn').2.point (wl_pos hG) hwk.2 hPk (fun r hr => hR r (List.mem_filter.mp hr).1 (pts_le3 hG hwk.2 (by rw [hPk]; exact List.mem_append_right _ (List.mem_cons_of_mem _ hr))))
        have hTb : TbU G τ 46 (fun v => (dg G e v : Int)) (fun v => v % 6 ≤ k) := fun v hv _ => by
          rw [f46]
          have := t3 v hv
          exact ⟨this.1, this.2.1, fun _ => this.2.2⟩
        have hv := c_valueT hG (show k < 6 by omega) hck (by have := TS_len (G := G) (k := k) (P := P); omega) ln_46 hwk.2 (fun r hr => (TS_mem hG hP hr).2) (fun r hr => tab_ok hG hkn' hTb (TS_mem hG hP hr).1)
        unfold TS at hv
        rw [lsm_filter, xl_ints hG hel] at hv
        have hcnt : (i32 (S.count k)).toInt64 = oi (Fk G k (ints e)) := by
          have hb := List.count_le_length (a := k) (l := S)
          rw [i32_64 (by omega), ← wd_val hG hkn', ← hS]
          rfl
        have h12 : τ.1 39 k = i32 (S.count k) := by rw [f39]; exact hcount k (by omega)
        have hlack : (i32 (S.count k)).toInt64 - oi (lsm (fun r => cf G k r * Bn r (ints e)) (P.filter (fun r => decide (pwt (wl G) r ≤ gw G k)))) = oi (cf G k e) := by
          rw [hcnt, oi_sub, hval]
          congr 1
          omega
        by_cases hz : oi (cf G k e) = 0
        · have hok : okT G k e = false := by unfold okT; rw [hz]; rfl
          have hTS : TS G k (P ++ [e]) = TS G k P := by
            rw [TS_app, if_neg (fun z => by rw [hok] at z; exact absurd z.2 (by decide)), List.append_nil]
          obtain ⟨s', n', a1, a2, a3⟩ := next τ (fun _ _ => rfl) (fun _ _ => rfl) rfl rfl (by rw [hTS]; exact hck) (fun _ _ _ z => z)
          refine ⟨s', n', a1, ?_, a3⟩
          refine hstart ?_ a2
          rw [if_pos (i_le hc (by omega)), e_gI ln_39 (by omega) (by omega), h12, e_gR ln_44 (by omega) (by omega), rf_44 (by omega), hv, e_bs, e_bd, hlack, if_pos hz]
        · have hok : okT G k e = true := decide_eq_true hz
          have hTS : TS G k (P ++ [e]) = TS G k P ++ [e] := by rw [TS_app, if_pos ⟨hc, hok⟩]
          obtain ⟨υ, e5, f5, C5⟩ := c_append hG (show k < 6 by omega) hck (by have := TS_len (G := G) (k := k) (P := P); omega) ht.2 hem
          obtain ⟨s', n', a1, a2, a3⟩ := next υ (f5.fq (show k < 6 by omega)).1 (f5.fq (show k < 6 by omega)).2 (f5.1 39 (by omega) (by omega) (by omega)) (f5.2 46 (by omega)) (by rw [hTS]; exact C5) (fun q hq T z => z.fs f5 hq)
          refine ⟨s', n', a1, ?_, a3⟩
          refine hstart ?_ a2
          rw [if_pos (i_le hc (by omega)), e_gI ln_39 (by omega) (by omega), h12, e_gR ln_44 (by omega) (by omega), rf_44 (by omega), hv, e_bs, e_bd, hlack, if_neg hz, e_gR ln_44 (by omega) (by omega), rf_44 (by omega), e5, e_bs]
      · have hTS : TS G k (P ++ [e]) = TS G k P := by
          rw [TS_app, if_neg (fun z => hc z.1), List.append_nil]
        obtain ⟨s', n', a1, a2, a3⟩ := next τ (fun _ _ => rfl) (fun _ _ => rfl) rfl rfl (by rw [hTS]; exact hck) (fun _ _ _ z => z)
        refine ⟨s', n', a1, ?_, a3⟩
        refine hstart ?_ a2
        rw [if_neg (i_nle (by omega) (by omega))]
theorem cf_zs (hG : GOK G) {k : Nat} (hk : k < gn G) : cf G k (zs (wl G)) = 0 := by
  have hw := hG.2.2.1 k hk
  have h1 := pts_zs (wl G) (gw G k)
  have h2 := (cf_ok hG hk).2.point (P := []) (wl_pos hG) hw.2 h1 (fun r hr => Bn_aft _ _ _ r hr (pts_le3 hG hw.2 (by rw [h1]; exact List.mem_cons_of_mem _ hr)))
  have h3 : Fk G k (ints (zs (wl G))) = 0 := by
    have hz : ∀ p, (ints (zs (wl G))).getD p 0 = 0 := fun p => by
      rw [ints_getD]
      unfold zs
      rw [List.getD_eq_getElem?_getD, List.getElem?_map]
      cases (wl G)[p]? <;> rfl
    unfold Fk
    have h4 := mul_O hG (a := O) k hk
    rw [mul_congr (a' := O) (b' := O) (fun i _ => hz i) (fun i _ => hz _) hk, h4]
    rfl
  rw [h3] at h2
  have h5 : lsm (fun e => cf G k e * Bn e (ints (zs (wl G)))) [] = 0 := rfl
  omega
theorem c_findTerms (hG : GOK G) (h : CG σ 41 G) (h0 : ∀ k, k < 6 → σ.1 (48 + 4 * k) 0 = 0) : ∃ τ, f_X4_findTerms σ = some τ ∧ (∀ x, x < 35 ∨ 71 < x → τ.1 x = σ.1 x ∧ τ.2 x = σ.2 x) ∧ (∀ x, 41 ≤ x → x ≤ 43 → τ.1 x = σ.1 x) ∧ (∀ c, c ≠ 6 → τ.1 40 c = σ.1 40 c) ∧ CPoly G τ := by
  have hn := hG.2.1
  have ht := topG_le hG
  unfold f_X4_findTerms
  obtain ⟨σ1, e1, o1, v1⟩ := fillI (σ := σ) (a := 45) (v := 0) ln_45 (by omega)
  rw [e1, e_bs, e_pF]
  have i2 : ∀ x, x ≠ 45 → x ≠ 40 → (wI σ1 40 6 0).1 x = σ.1 x := fun x h1 h2 => by funext y; rw [wI_1, if_neg (fun z => h2 z.1), o1.2 x h1]
  have i40 : ∀ c, c ≠ 6 → (wI σ1 40 6 0).1 40 c = σ.1 40 c := fun c hc => by rw [wI_1, if_neg (fun z => hc z.2), o1.2 40 (by omega)]
  have l2 : (wI σ1 40 6 0).2 = σ.2 := o1.1
  have p2 : (wI σ1 40 6 0).1 40 6 = i32 0 := by rw [wI_1, if_pos ⟨rfl, rfl⟩]; rfl
  have v2 : ∀ v, v < 12 → (wI σ1 40 6 0).1 45 v = 0 := fun v hv => by rw [wI_1, if_neg (by omega)]; exact v1 v hv
  generalize wI σ1 40 6 0 = σ2 at i2 i40 l2 p2 v2
  have m2 : CG σ2 41 G := by
    unfold CG
    rw [i2 41 (by omega) (by omega), i2 (41 + 1) (by omega) (by omega), i2 (41 + 2) (by omega) (by omega)]
    exact h
  have hTS0 : ∀ k, k < gn G → TS G k [zs (wl G)] = [] := fun k hk => by
    have := TS_app (G := G) (k := k) (P := []) (e := zs (wl G))
    rw [List.nil_append] at this
    rw [this, if_neg]
    · rfl
    · intro z
      have h3 := z.2
      unfold okT at h3
      rw [cf_zs hG hk] at h3
      exact absurd h3 (by decide)
  have hl := loop_inv (body := fun (z4 : (Mem × Int32)) => l_X4_findTerms_15 z4.1 z4.2) (fun n z => ∃ s P e τ, z = (τ, i32 s) ∧ P.length = s ∧ n = 455 - s ∧ s ≤ 455 ∧ pts (wl G) (topG G) = P ++ e :: aft (wl G) (topG G) e ∧ CG τ 41 G ∧ PT G τ e ∧ τ.1 40 6 = i32 (pwt (wl G) e) ∧ CTs G τ (P ++ [e]) ∧ (∀ x, x < 35 ∨ 71 < x → τ.1 x = σ.1 x ∧ τ.2 x = σ.2 x) ∧ (∀ x, 41 ≤ x → x ≤ 43 → τ.1 x = σ.1 x) ∧ ∀ c, c ≠ 6 → τ.1 40 c = σ.1 40 c) (fun τ => (∀ x, x < 35 ∨ 71 < x → τ.1 x = σ.1 x ∧ τ.2 x = σ.2 x) ∧ (∀ x, 41 ≤ x → x ≤ 43 → τ.1 x = σ.1 x) ∧ (∀ c, c ≠ 6 → τ.1 40 c = σ.1 40 c) ∧ CPoly G τ) ?_ 455 (σ2, 0) ⟨0, [], zs (wl G), σ2, rfl, rfl, rfl, by omega, pts_zs _ _, m2, fun v hv => by
      rw [v2 v hv]
      have : dg G (zs (wl G)) v ≤ 0 := dg_le (G := G) (fun d hd => by
        obtain ⟨_, _, rfl⟩ := List.mem_map.mp hd
        exact Nat.le_refl 0) v
      rw [show dg G (zs (wl G)) v = 0 by omega]; rfl, by rw [wt_zs]; exact p2, fun k hk => by
      have e9 : (if k < gn G then TS G k ([] ++ [zs (wl G)]) else []) = [] := by
        by_cases h1 : k < gn G
        · rw [if_pos h1, List.nil_append, hTS0 k h1]
        · rw [if_neg h1]
      rw [e9]
      exact ⟨by rw [i2 _ (by omega) (by omega)]; exact h0 k hk, fun t e he => by simp at he⟩, fun x hx => ⟨i2 x (by omega) (by omega), by rw [l2]⟩, fun x h1 h2 => i2 x (by omega) (by omega), i40⟩
  · exact hl
  · rintro n z ⟨s, P, e, τ, rfl, hPs, rfl, hs, hP, m, pt, pw, hC, f1, f2, f3⟩
    have hem : e ∈ pts (wl G) (topG G) := by rw [hP]; exact List.mem_append_right _ (List.mem_cons_self ..)
    have he := (pts_mem _ _ _ (wl_pos hG)).mp hem
    have hsm := pts_small hG (L := topG G) ht.2
    have hs455 : s < 455 := by
      rw [hP, List.length_append, List.length_cons] at hsm
      omega
    obtain ⟨b, υ, e4, f4, ⟨rfl, r, hnx, pt4, pw4, hw4⟩ | ⟨rfl, hnx⟩⟩ := c_next hG m (by rw [he.1, wl_len]) he.2 pt pw
    · left
      have haft := nx_some _ _ _ _ (wl_pos hG) hnx
      have hP' : pts (wl G) (topG G) = (P ++ [e]) ++ r :: aft (wl G) (topG G) r := by
        rw [hP, haft, List.append_assoc]; rfl
      have C4 : CTs G υ (P ++ [e]) := fun k hk => (hC k hk).of (f4.2.1 _ (by omega) (by omega)) (f4.2.1 _ (by omega) (by omega)) (by rw [f4.1]) (f4.2.1 _ (by omega) (by omega))
      obtain ⟨ω, e5, f5, C5⟩ := c_atPoint hG (m.fn f4) hP' (fun q hq h3 => Bn_aft _ _ _ q hq h3) pt4 pw4 C4
      refine ⟨(ω, i32 (s + 1)), 455 - (s + 1), by omega, ?_, s + 1, P ++ [e], r, ω, rfl, by rw [List.length_append, hPs]; rfl, rfl, by omega, hP', (m.fn f4).fq f5, fun v hv => by rw [f5.1 45 (by omega)]; exact pt4 v hv, by rw [f5.1 40 (by omega)]; exact pw4, C5, fun x hx => ?_, fun x h1 h2 => ?_, fun c hc => ?_⟩
      · show l_X4_findTerms_15 τ (i32 s) = _
        unfold l_X4_findTerms_15
        rw [show (455 : Int32) = i32 455 from rfl, if_neg (i_nle hs455 (by omega)), e4, e_bq, if_pos rfl, e5, e_bs, i32_1, i32_add]
      · refine ⟨?_, ?_⟩
        · rw [f5.1 x (by omega), f4.2.1 x (by omega) (by omega)]; exact (f1 x hx).1
        · rw [f5.2 x hx, f4.1]; exact (f1 x hx).2
      · rw [f5.1 x (by omega), f4.2.1 x (by omega) (by omega)]; exact f2 x h1 h2
      · rw [f5.1 40 (by omega), f4.2.2 c hc]; exact f3 c hc
    · right
      have haft := nx_none _ _ _ (wl_pos hG) hnx
      refine ⟨υ, ?_, fun x hx => ⟨?_, ?_⟩, fun x h1 h2 => ?_, fun c hc => ?_, fun k hk => ?_⟩
      · show l_X4_findTerms_15 τ (i32 s) = _
        unfold l_X4_findTerms_15
        rw [show (455 : Int32) = i32 455 from rfl, if_neg (i_nle hs455 (by omega)), e4, e_bq, if_neg (by decide)]
      · rw [f4.2.1 x (by omega) (by omega)]; exact (f1 x hx).1
      · rw [f4.1]; exact (f1 x hx).2
      · rw [f4.2.1 x (by omega) (by omega)]; exact f2 x h1 h2
      · rw [f4.2.2 c hc]; exact f3 c hc
      · have hc2 : CT G υ k (if k < gn G then TS G k (P ++ [e]) else []) := (hC k hk).of (f4.2.1 _ (by omega) (by omega)) (f4.2.1 _ (by omega) (by omega)) (by rw [f4.1]) (f4.2.1 _ (by omega) (by omega))
        by_cases h1 : k < gn G
        · rw [if_pos h1] at hc2
          rw [if_pos h1, ← TS_all hG h1, hP, haft]; exact hc2
        · rw [if_neg h1] at hc2
          rw [if_neg h1]; exact hc2
end FT2

