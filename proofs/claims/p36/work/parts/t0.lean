theorem gj_19 : Cond.initialized RL ∈ goodTbl := mgP tb_1 0 rfl (by decide +kernel)
theorem gj_75 : Cond.arrayClass .int ∈ goodTbl := mgP tb_1 56 rfl (by decide +kernel)
theorem gj_710 : Cond.code yL_types cL_types 5 (none) ∈ goodTbl := mgP tb_3 211 rfl (by decide +kernel)
theorem gj_711 : Cond.methodLink RL 49 yJ0_length_8abf5 ∈ goodTbl := mgP tb_3 212 rfl (by decide +kernel)
theorem gj_712 : Cond.instanceMethod yJ0_length_8abf5 ∈ goodTbl := mgP tb_3 213 rfl (by decide +kernel)
theorem gj_713 : Cond.selects RJ0 yJ0_length_8abf5 yJ0_length_8abf5 ∈ goodTbl := mgP tb_3 214 rfl (by decide +kernel)
theorem gj_721 : Cond.methodLink RL 54 yJ0_charAt_5068e ∈ goodTbl := mgP tb_3 222 rfl (by decide +kernel)
theorem gj_722 : Cond.instanceMethod yJ0_charAt_5068e ∈ goodTbl := mgP tb_3 223 rfl (by decide +kernel)
theorem gj_723 : Cond.selects RJ0 yJ0_charAt_5068e yJ0_charAt_5068e ∈ goodTbl := mgP tb_3 224 rfl (by decide +kernel)
theorem gj_759 : Cond.methodLink RL 58 yX10_feed ∈ goodTbl := mgP tb_4 20 rfl (by decide +kernel)
theorem gj_760 : Cond.instanceMethod yX10_feed ∈ goodTbl := mgP tb_4 21 rfl (by decide +kernel)
theorem gj_761 : Cond.selects RX10 yX10_feed yX10_feed ∈ goodTbl := mgP tb_4 22 rfl (by decide +kernel)
theorem gj_767 : Cond.methodLink RL 62 yX10_end ∈ goodTbl := mgP tb_4 28 rfl (by decide +kernel)
theorem gj_768 : Cond.instanceMethod yX10_end ∈ goodTbl := mgP tb_4 29 rfl (by decide +kernel)
theorem gj_769 : Cond.selects RX10 yX10_end yX10_end ∈ goodTbl := mgP tb_4 30 rfl (by decide +kernel)
/-! p36: types: a text onto the tape -/
abbrev mu_L_types : MD := (yL_types, cL_types, 5, none, 5)
theorem ok_L_types : MOK mu_L_types 2 := ⟨gj_710, gj_19, (by decide +kernel : plainFor yL_types = true), ⟨(by decide +kernel : yL_types.cls ≠ "java/lang/invoke/MethodHandle"), (by decide +kernel : yL_types.cls ≠ "java/lang/invoke/VarHandle"), (by decide +kernel : (parseMethodDescriptor yL_types.desc).map (fun d => d.parameters.length) = some 2)⟩, Nat.le_of_ble_eq_true rfl⟩
/-- the letters, five numbers of four -/
def shf (i : Nat) : Int32 := i32 (24 - 8 * (i % 4))
def vf (ch : Nat → Int32) : Nat → Nat → Int32
  | 0 => fun _ => 0
  | i + 1 => upd (vf ch i) (i / 4) (vf ch i (i / 4) ||| (ch i <<< (shf i &&& 31)))
theorem ty20 : ∀ i, i < 20 → (i32 i / 4).toNatClampNeg = i / 4 ∧ ¬ (i32 i / 4 < 0 ∨ 5 ≤ (i32 i / 4).toNatClampNeg) ∧ ((24 : Int32) - 8 * (i32 i - i32 i / 4 * 4)) = shf i ∧ ¬ (20 : Int32) ≤ i32 i ∧ ¬ i32 i < 0 := by decide +kernel
theorem len17 : ∀ n, n < 17 → (Int32.ofNat n >>> (0 &&& 31)) = i32 n := by decide +kernel
theorem cmp17 : ∀ n, n < 17 → ∀ i, i < 20 → ((i32 n ≤ i32 i) ↔ n ≤ i) := by decide +kernel
theorem at17 : ∀ n, n < 17 → ∀ i, i < n → (i32 i < Int32.ofNat n) ∧ ¬ (i32 i < 0 ∨ n ≤ (i32 i).toNatClampNeg) ∧ (i32 i).toNatClampNeg = i := by decide +kernel
theorem let6 : ∀ b, b < 103 → 97 ≤ b → ((i32 b &&& 255).toUInt32 % 65536).toInt32 = i32 b ∧ narrow .char (.int (i32 b)) = .int (i32 b) := by decide +kernel
/-- the letters as bytes -/
def chB (lt : List Nat) (k : Nat) : Nat := if k < lt.length then lt.getD k 0 else 32
def chI (lt : List Nat) (k : Nat) : Int32 := i32 (chB lt k)
theorem pack4 : ∀ a, (a < 103 ∧ 97 ≤ a) ∨ a = 32 → ∀ b, (b < 103 ∧ 97 ≤ b) ∨ b = 32 → ∀ c, (c < 103 ∧ 97 ≤ c) ∨ c = 32 → ∀ d, (d < 103 ∧ 97 ≤ d) ∨ d = 32 → bl ((((((0 : Int32) ||| (i32 a <<< (shf 0 &&& 31))) ||| (i32 b <<< (shf 1 &&& 31))) ||| (i32 c <<< (shf 2 &&& 31)))) ||| (i32 d <<< (shf 3 &&& 31))) 4 = [a, b, c, d] := by
  have key : [97, 98, 99, 100, 101, 102, 32].all (fun a => [97, 98, 99, 100, 101, 102, 32].all (fun b => [97, 98, 99, 100, 101, 102, 32].all (fun c => [97, 98, 99, 100, 101, 102, 32].all (fun d => decide (bl ((((((0 : Int32) ||| (i32 a <<< (shf 0 &&& 31))) ||| (i32 b <<< (shf 1 &&& 31))) ||| (i32 c <<< (shf 2 &&& 31)))) ||| (i32 d <<< (shf 3 &&& 31))) 4 = [a, b, c, d]))))) = true := by decide +kernel
  have mem : ∀ a : Nat, (a < 103 ∧ 97 ≤ a) ∨ a = 32 → a ∈ [97, 98, 99, 100, 101, 102, 32] := fun a h => by
    simp only [List.mem_cons, List.not_mem_nil, or_false]; omega
  intro a ha b hb c hc d hd
  exact of_decide_eq_true (List.all_eq_true.mp (List.all_eq_true.mp (List.all_eq_true.mp (List.all_eq_true.mp key a (mem a ha)) b (mem b hb)) c (mem c hc)) d (mem d hd))
theorem vf20 (ch : Nat → Int32) : ∀ j, j < 5 → vf ch 20 j = (((((0 : Int32) ||| (ch (4 * j) <<< (shf 0 &&& 31))) ||| (ch (4 * j + 1) <<< (shf 1 &&& 31))) ||| (ch (4 * j + 2) <<< (shf 2 &&& 31)))) ||| (ch (4 * j + 3) <<< (shf 3 &&& 31)) := by
  intro j hj
  rcases (show j = 0 ∨ j = 1 ∨ j = 2 ∨ j = 3 ∨ j = 4 by omega) with rfl | rfl | rfl | rfl | rfl <;> rfl
theorem chB_ok {lt : List Nat} (hl : ∀ x, x ∈ lt → x < 103 ∧ 97 ≤ x) (k : Nat) : (chB lt k < 103 ∧ 97 ≤ chB lt k) ∨ chB lt k = 32 := by
  unfold chB
  by_cases h : k < lt.length
  · rw [if_pos h]
    left
    have e : lt.getD k 0 = lt[k] := by rw [List.getD_eq_getElem?_getD, List.getElem?_eq_getElem h]; rfl
    rw [e]
    exact hl _ (List.getElem_mem h)
  · rw [if_neg h]; exact Or.inr rfl
theorem bl_vf {lt : List Nat} (hl : ∀ x, x ∈ lt → x < 103 ∧ 97 ≤ x) {j : Nat} (hj : j < 5) : bl (vf (chI lt) 20 j) 4 = [chB lt (4 * j), chB lt (4 * j + 1), chB lt (4 * j + 2), chB lt (4 * j + 3)] := by
  rw [vf20 _ j hj]
  exact pack4 _ (chB_ok hl _) _ (chB_ok hl _) _ (chB_ok hl _) _ (chB_ok hl _)
theorem tape_is {lt : List Nat} (hl : ∀ x, x ∈ lt → x < 103 ∧ 97 ≤ x) (hn : lt.length < 17) : (([] : List Nat) ++ bl (vf (chI lt) 20 0) 4 ++ bl (vf (chI lt) 20 1) 4 ++ bl (vf (chI lt) 20 2) 4 ++ bl (vf (chI lt) 20 3) 4 ++ bl (vf (chI lt) 20 4) 4).take lt.length = lt := by
  rw [bl_vf hl (by omega), bl_vf hl (by omega), bl_vf hl (by omega), bl_vf hl (by omega), bl_vf hl (by omega)]
  have e : ([] ++ [chB lt (4 * 0), chB lt (4 * 0 + 1), chB lt (4 * 0 + 2), chB lt (4 * 0 + 3)] ++ [chB lt (4 * 1), chB lt (4 * 1 + 1), chB lt (4 * 1 + 2), chB lt (4 * 1 + 3)] ++ [chB lt (4 * 2), chB lt (4 * 2 + 1), chB lt (4 * 2 + 2), chB lt (4 * 2 + 3)] ++ [chB lt (4 * 3), chB lt (4 * 3 + 1), chB lt (4 * 3 + 2), chB lt (4 * 3 + 3)] ++ [chB lt (4 * 4), chB lt (4 * 4 + 1), chB lt (4 * 4 + 2), chB lt (4 * 4 + 3)] : List Nat) = (List.range 20).map (chB lt) := rfl
  rw [e]
  apply List.ext_getElem?
  intro k
  by_cases h : k < lt.length
  · rw [List.getElem?_take_of_lt h, List.getElem?_map, List.getElem?_range (by omega), List.getElem?_eq_getElem h]
    show some (chB lt k) = _
    unfold chB
    rw [if_pos h, List.getD_eq_getElem?_getD, List.getElem?_eq_getElem h]; rfl
  · rw [List.getElem?_eq_none (l := lt) (by omega), List.getElem?_eq_none (by rw [List.length_take]; omega)]
def ty_postS (w : Wd) (S : AS) : Option Value → va_W → Prop := fun r L2 => r = none ∧ ∃ σ' ws' c', L2 = wd w σ' ++ ws' ∧ ICls c' S σ'
section TY
variable {w : Wd} {σ : Mem} {ws : va_W} {S : AS} {c i j s q v n k sl : Nat} {g : Nat → Int32}
theorem ty_end {S2 : AS} (hw : WOK w) (h0k : isk w 0 10) (hs : ws[i]? = some (s, stC (.ref q))) (hj : ws[j]? = some (q, byC w n g)) (hn : n < 17) (hk : k ≤ 1) (hs5 : sl ≤ 5) {υ : Mem} (e : f_X10_end σ (i32 n) = some (true, υ)) (hI : ICls c S2 υ) : LW w mu_L_types (rmJ 5 1 5) (own w) (QM w (own w) (ty_postS w S2) 1 5) (wd w σ ++ ws) k sl [(0, .ref (adr w 0)), (1, .ref s)] [] 100 := by
  refine ly_aload_n (pc := 100) 0 rfl dL_types_100 rfl ?_
  refine ly_aload_n (pc := 101) 1 rfl dL_types_101 rfl ?_
  refine ly_callV (pc := 102) (As := []) (C := RJ0) own_own (sp_r hs) rfl rfl (mj_lengthS own_own (sp_r hs) (sp_r hj)) ok_J0_length_8abf5 ⟨Nat.le_of_ble_eq_true rfl, Nat.le_of_ble_eq_true rfl⟩ gj_711 gj_712 (fun C0 => C0.2.2.2.2.2.1 _ gj_713) rfl (rest := [.ref (adr w 0)]) rfl (Nat.le_of_ble_eq_true rfl) (by show _ ≤ 1; omega) (by show _ ≤ 5; omega) dL_types_102 (fun r L2 h => ?_)
  rw [h.1, h.2]
  show LW w mu_L_types _ (own w) _ (wd w σ ++ ws) _ _ [(0, .ref (adr w 0)), (1, .ref s)] [.int (Int32.ofNat n >>> (0 &&& 31)), .ref (adr w 0)] 105
  rw [len17 n hn]
  refine ly_cV (pc := 105) (As := [.int (i32 n)]) (rest := []) (c_X10_end hw _ _ e) ok_X10_end rfl ⟨Nat.le_of_ble_eq_true rfl, Nat.le_of_ble_eq_true rfl⟩ (all3 gj_767 gj_768 gj_769) h0k rfl rfl (Nat.le_of_ble_eq_true rfl) (by show _ ≤ 1; omega) (by show _ ≤ 5; omega) dL_types_105 ?_
  show LW w mu_L_types _ (own w) _ (wd w υ ++ ws) _ _ [(0, .ref (adr w 0)), (1, .ref s)] [.int (b2i true)] 108
  refine ly_pop (pc := 108) dL_types_108 rfl ?_
  refine ly_widen hk hs5 ?_
  exact ly_vret ⟨rfl, υ, ws, c, rfl, hI⟩ rfl rfl rfl dL_types_109
theorem ty_body {S2 : AS} {x : Nat} {ch : Nat → Int32} (hx : x < 20) (kk : LW w mu_L_types (rmJ 5 1 5) (own w) (QM w (own w) (ty_postS w S2) 1 5) (wd w σ ++ (ws ++ [(v, .inl (wcs w 12, 5, .inl (vf ch (x + 1))))])) 1 5 [(4, .int (i32 (x + 1))), (3, .ref v), (2, .int 0), (0, .ref (adr w 0)), (1, .ref s)] [] 17) : LW w mu_L_types (rmJ 5 1 5) (own w) (QM w (own w) (ty_postS w S2) 1 5) (wd w σ ++ (ws ++ [(v, .inl (wcs w 12, 5, .inl (vf ch x)))])) 1 5 [(4, .int (i32 x)), (3, .ref v), (2, .int 0), (0, .ref (adr w 0)), (1, .ref s)] [.int (ch x), .int (vf ch x (x / 4)), .int (i32 x / 4), .ref v] 55 := by
  refine ly_bipush (pc := 55) (v := 24) dL_types_55 (by decide) ?_
  refine ly_bipush (pc := 57) (v := 8) dL_types_57 (by decide) ?_
  refine ly_iload (pc := 59) 0 rfl dL_types_59 ?_
  refine ly_iconst (pc := 61) (v := 4) dL_types_61 (by decide) ?_
  refine ly_irem (pc := 62) dL_types_62 (by decide) ?_
  refine ly_imul (pc := 63) dL_types_63 ?_
  refine ly_isub (pc := 64) dL_types_64 ?_
  rw [(ty20 x hx).2.2.1]
  refine ly_ishl (pc := 65) dL_types_65 ?_
  refine ly_ior (pc := 66) dL_types_66 ?_
  refine ly_iast (pc := 67) (i := wn w + ws.length) (sp_r app_r) (ty20 x hx).2.1 dL_types_67 ?_
  rw [sp_set, app_set, (ty20 x hx).1]
  show LW w mu_L_types _ (own w) _ (wd w σ ++ (ws ++ [(v, .inl (wcs w 12, 5, .inl (vf ch (x + 1))))])) _ _ [(4, .int (i32 x)), (3, .ref v), (2, .int 0), (0, .ref (adr w 0)), (1, .ref s)] [] 68
  refine ly_iinc (pc := 68) (v := i32 (x + 1)) (lv' := [(4, .int (i32 (x + 1))), (3, .ref v), (2, .int 0), (0, .ref (adr w 0)), (1, .ref s)]) 0 rfl dL_types_68 (by rw [show Int32.ofInt 1 = i32 1 from rfl, i32_add]) (ltb rfl) rfl ?_
  exact ly_goto (pc := 71) dL_types_71 (tgt := 17) rfl kk
theorem ty_step {S2 : AS} {x : Nat} {lt : List Nat} (hlt : lt.length = n) (hg : ∀ k, k < n → g k = i32 (lt.getD k 0)) (hl : ∀ x, x ∈ lt → x < 103 ∧ 97 ≤ x) (hw : WOK w) (h0k : isk w 0 10) (hs : ws[i]? = some (s, stC (.ref q))) (hj : ws[j]? = some (q, byC w n g)) (hn : n < 17) (hx : x < 20) (kk : LW w mu_L_types (rmJ 5 1 5) (own w) (QM w (own w) (ty_postS w S2) 1 5) (wd w σ ++ (ws ++ [(v, .inl (wcs w 12, 5, .inl (vf (chI lt) (x + 1))))])) 1 5 [(4, .int (i32 (x + 1))), (3, .ref v), (2, .int 0), (0, .ref (adr w 0)), (1, .ref s)] [] 17) : LW w mu_L_types (rmJ 5 1 5) (own w) (QM w (own w) (ty_postS w S2) 1 5) (wd w σ ++ (ws ++ [(v, .inl (wcs w 12, 5, .inl (vf (chI lt) x)))])) 1 5 [(4, .int (i32 x)), (3, .ref v), (2, .int 0), (0, .ref (adr w 0)), (1, .ref s)] [] 17 := by
  refine ly_iload (pc := 17) 0 rfl dL_types_17 ?_
  refine ly_bipush (pc := 19) (v := 20) dL_types_19 (by decide) ?_
  refine ly_icmp_ge (pc := 21) dL_types_21 (tgt := 74) rfl (fun h => absurd h (ty20 x hx).2.2.2.1) (fun _ => ?_)
  refine ly_aload_n (pc := 24) 1 rfl dL_types_24 rfl ?_
  refine ly_iload (pc := 25) 0 rfl dL_types_25 ?_
  refine ly_iconst (pc := 27) (v := 4) dL_types_27 (by decide) ?_
  refine ly_idiv (pc := 28) dL_types_28 (by decide) ?_
  refine ly_dup2 (pc := 29) dL_types_29 rfl rfl ?_
  refine ly_iald (pc := 30) (i := wn w + ws.length) (sp_r app_r) (ty20 x hx).2.1 dL_types_30 ?_
  rw [(ty20 x hx).1]
  show LW w mu_L_types _ (own w) _ (wd w σ ++ (ws ++ [(v, .inl (wcs w 12, 5, .inl (vf (chI lt) x)))])) _ _ [(4, .int (i32 x)), (3, .ref v), (2, .int 0), (0, .ref (adr w 0)), (1, .ref s)] [.int (vf (chI lt) x (x / 4)), .int (i32 x / 4), .ref v] 31
  refine ly_iload_n (pc := 31) 2 rfl dL_types_31 rfl ?_
  refine ly_iload (pc := 32) 0 rfl dL_types_32 ?_
  refine ly_iadd (pc := 34) dL_types_34 ?_
  rw [Int32.zero_add]
  refine ly_aload_n (pc := 35) 4 rfl dL_types_35 rfl ?_
  refine ly_callV (pc := 36) (As := []) (C := RJ0) own_own (sp_r (app_l hs)) rfl rfl (mj_lengthS own_own (sp_r (app_l hs)) (sp_r (app_l hj))) ok_J0_length_8abf5 ⟨Nat.le_of_ble_eq_true rfl, Nat.le_of_ble_eq_true rfl⟩ gj_711 gj_712 (fun C0 => C0.2.2.2.2.2.1 _ gj_713) rfl (rest := [.int (i32 x), .int (vf (chI lt) x (x / 4)), .int (i32 x / 4), .ref v]) rfl (Nat.le_of_ble_eq_true rfl) (by show _ ≤ 1; omega) (by show _ ≤ 5; omega) dL_types_36 (fun r L2 h => ?_)
  rw [h.1, h.2]
  show LW w mu_L_types _ (own w) _ (wd w σ ++ (ws ++ [(v, .inl (wcs w 12, 5, .inl (vf (chI lt) x)))])) _ _ [(4, .int (i32 x)), (3, .ref v), (2, .int 0), (0, .ref (adr w 0)), (1, .ref s)] [.int (Int32.ofNat n >>> (0 &&& 31)), .int (i32 x), .int (vf (chI lt) x (x / 4)), .int (i32 x / 4), .ref v] 39
  rw [len17 n hn]
  refine ly_icmp_ge (pc := 39) dL_types_39 (tgt := 53) rfl (fun h => ?_) (fun h => ?_)
  · have hge : n ≤ x := (cmp17 n hn x hx).mp h
    have e32 : chI lt x = 32 := by unfold chI chB; rw [if_neg (by omega)]; rfl
    refine ly_bipush (pc := 53) (v := 32) dL_types_53 (by decide) ?_
    rw [← e32]
    exact ty_body hx kk
  · have hlx : x < n := Nat.lt_of_not_le (fun z => h ((cmp17 n hn x hx).mpr z))
    have e1 : chI lt x = i32 (lt.getD x 0) := by unfold chI chB; rw [if_pos (by omega)]
    have eg : g (i32 x).toNatClampNeg = chI lt x := by rw [(at17 n hn x hlx).2.2, e1]; exact hg x hlx
    have hb : lt.getD x 0 < 103 ∧ 97 ≤ lt.getD x 0 := by
      have hq : x < lt.length := by omega
      have e : lt.getD x 0 = lt[x] := by rw [List.getD_eq_getElem?_getD, List.getElem?_eq_getElem hq]; rfl
      rw [e]; exact hl _ (List.getElem_mem hq)
    refine ly_aload_n (pc := 42) 4 rfl dL_types_42 rfl ?_
    refine ly_iload_n (pc := 43) 2 rfl dL_types_43 rfl ?_
    refine ly_iload (pc := 44) 0 rfl dL_types_44 ?_
    refine ly_iadd (pc := 46) dL_types_46 ?_
    rw [Int32.zero_add]
    refine ly_callV (pc := 47) (As := [.int (i32 x)]) (C := RJ0) own_own (sp_r (app_l hs)) rfl rfl (mj_charAt (c := chI lt x) own_own (sp_r (app_l hs)) (sp_r (app_l hj)) (ty20 x hx).2.2.2.2 (at17 n hn x hlx).1 (at17 n hn x hlx).2.1 (by rw [eg, e1]; exact (let6 _ hb.1 hb.2).1) (by rw [e1]; exact (let6 _ hb.1 hb.2).2)) ok_J0_charAt_5068e ⟨Nat.le_of_ble_eq_true rfl, Nat.le_of_ble_eq_true rfl⟩ gj_721 gj_722 (fun C0 => C0.2.2.2.2.2.1 _ gj_723) rfl (rest := [.int (vf (chI lt) x (x / 4)), .int (i32 x / 4), .ref v]) rfl (Nat.le_of_ble_eq_true rfl) (by show _ ≤ 1; omega) (by show _ ≤ 5; omega) dL_types_47 (fun r L2 h => ?_)
    rw [h.1, h.2]
    show LW w mu_L_types _ (own w) _ (wd w σ ++ (ws ++ [(v, .inl (wcs w 12, 5, .inl (vf (chI lt) x)))])) _ _ [(4, .int (i32 x)), (3, .ref v), (2, .int 0), (0, .ref (adr w 0)), (1, .ref s)] [.int (chI lt x), .int (vf (chI lt) x (x / 4)), .int (i32 x / 4), .ref v] 50
    refine ly_goto (pc := 50) dL_types_50 (tgt := 55) rfl ?_
    exact ty_body hx kk
theorem ty_loop {S2 : AS} {lt : List Nat} (hlt : lt.length = n) (hg : ∀ k, k < n → g k = i32 (lt.getD k 0)) (hl : ∀ x, x ∈ lt → x < 103 ∧ 97 ≤ x) (hw : WOK w) (h0k : isk w 0 10) (hs : ws[i]? = some (s, stC (.ref q))) (hj : ws[j]? = some (q, byC w n g)) (hn : n < 17) (kk : LW w mu_L_types (rmJ 5 1 5) (own w) (QM w (own w) (ty_postS w S2) 1 5) (wd w σ ++ (ws ++ [(v, .inl (wcs w 12, 5, .inl (vf (chI lt) 20)))])) 1 5 [(4, .int (i32 20)), (3, .ref v), (2, .int 0), (0, .ref (adr w 0)), (1, .ref s)] [] 17) : ∀ d x, x + d = 20 → LW w mu_L_types (rmJ 5 1 5) (own w) (QM w (own w) (ty_postS w S2) 1 5) (wd w σ ++ (ws ++ [(v, .inl (wcs w 12, 5, .inl (vf (chI lt) x)))])) 1 5 [(4, .int (i32 x)), (3, .ref v), (2, .int 0), (0, .ref (adr w 0)), (1, .ref s)] [] 17 := by
  intro d
  induction d with
  | zero => intro x hx; rw [show x = 20 by omega]; exact kk
  | succ d ih => intro x hx; exact ty_step hlt hg hl hw h0k hs hj hn (by omega) (ih (x + 1) (by omega))
theorem ty_feed {lt : List Nat} (hlt : lt.length = n) (hl : ∀ x, x ∈ lt → x < 103 ∧ 97 ≤ x) (hw : WOK w) (h0k : isk w 0 10) (hs : ws[i]? = some (s, stC (.ref q))) (hj : ws[j]? = some (q, byC w n g)) (hn : n < 17) (hI : ICls c S σ) (ht : aP S = []) (hn0 : 0 < n) : LW w mu_L_types (rmJ 5 1 5) (own w) (QM w (own w) (ty_postS w (tpS S lt)) 1 5) (wd w σ ++ (ws ++ [(v, .inl (wcs w 12, 5, .inl (vf (chI lt) 20)))])) 1 5 [(4, .int (i32 20)), (3, .ref v), (2, .int 0), (0, .ref (adr w 0)), (1, .ref s)] [] 17 := by
  have hN : (lt.length : Nat) < 17 := by omega
  have b0 : (bl (vf (chI lt) 20 0) 4).length = 4 := bl_len 4
  have b1 : (bl (vf (chI lt) 20 1) 4).length = 4 := bl_len 4
  have b2 : (bl (vf (chI lt) 20 2) 4).length = 4 := bl_len 4
  have b3 : (bl (vf (chI lt) 20 3) 4).length = 4 := bl_len 4
  have b4 : (bl (vf (chI lt) 20 4) 4).length = 4 := bl_len 4
  obtain ⟨r, τ, e1, i1⟩ := s_feed hI (by rw [ht]; exact Nat.zero_le _) (x0 := vf (chI lt) 20 0) (x1 := vf (chI lt) 20 1) (x2 := vf (chI lt) 20 2) (x3 := vf (chI lt) 20 3) (x4 := vf (chI lt) 20 4)
  rw [ht] at i1
  obtain ⟨υ, e2, i2⟩ := s_end (n := n) i1 (by show List.length (_ ++ _) ≤ 200; simp only [List.length_append, List.length_nil, b0, b1, b2, b3, b4]; omega) (by show n ≤ List.length (_ ++ _); simp only [List.length_append, List.length_nil, b0, b1, b2, b3, b4]; omega)
  have et : (aP (tpS S (([] : List Nat) ++ bl (vf (chI lt) 20 0) 4 ++ bl (vf (chI lt) 20 1) 4 ++ bl (vf (chI lt) 20 2) 4 ++ bl (vf (chI lt) 20 3) 4 ++ bl (vf (chI lt) 20 4) 4))).take n = lt := by rw [← hlt]; exact tape_is hl hN
  rw [et] at i2
  refine ly_iload (pc := 17) 0 rfl dL_types_17 ?_
  refine ly_bipush (pc := 19) (v := 20) dL_types_19 (by decide) ?_
  refine ly_icmp_ge (pc := 21) dL_types_21 (tgt := 74) rfl (fun _ => ?_) (fun h => absurd (by decide : (20 : Int32) ≤ i32 20) h)
  refine ly_aload_n (pc := 74) 3 rfl dL_types_74 rfl ?_
  refine ly_aload_n (pc := 75) 1 rfl dL_types_75 rfl ?_
  refine ly_iconst (pc := 76) (v := 0) dL_types_76 (by decide) ?_
  refine ly_iald (pc := 77) (i := wn w + ws.length) (sp_r app_r) (by decide : ¬ ((0 : Int32) < 0 ∨ 5 ≤ (0 : Int32).toNatClampNeg)) dL_types_77 ?_
  show LW w mu_L_types _ (own w) _ (wd w σ ++ (ws ++ [(v, .inl (wcs w 12, 5, .inl (vf (chI lt) 20)))])) _ _ [(4, .int (i32 20)), (3, .ref v), (2, .int 0), (0, .ref (adr w 0)), (1, .ref s)] [.int (vf (chI lt) 20 0), .ref (adr w 0)] 78
  refine ly_aload_n (pc := 78) 1 rfl dL_types_78 rfl ?_
  refine ly_iconst (pc := 79) (v := 1) dL_types_79 (by decide) ?_
  refine ly_iald (pc := 80) (i := wn w + ws.length) (sp_r app_r) (by decide : ¬ ((1 : Int32) < 0 ∨ 5 ≤ (1 : Int32).toNatClampNeg)) dL_types_80 ?_
  show LW w mu_L_types _ (own w) _ (wd w σ ++ (ws ++ [(v, .inl (wcs w 12, 5, .inl (vf (chI lt) 20)))])) _ _ [(4, .int (i32 20)), (3, .ref v), (2, .int 0), (0, .ref (adr w 0)), (1, .ref s)] [.int (vf (chI lt) 20 1), .int (vf (chI lt) 20 0), .ref (adr w 0)] 81
  refine ly_aload_n (pc := 81) 1 rfl dL_types_81 rfl ?_
  refine ly_iconst (pc := 82) (v := 2) dL_types_82 (by decide) ?_
  refine ly_iald (pc := 83) (i := wn w + ws.length) (sp_r app_r) (by decide : ¬ ((2 : Int32) < 0 ∨ 5 ≤ (2 : Int32).toNatClampNeg)) dL_types_83 ?_
  show LW w mu_L_types _ (own w) _ (wd w σ ++ (ws ++ [(v, .inl (wcs w 12, 5, .inl (vf (chI lt) 20)))])) _ _ [(4, .int (i32 20)), (3, .ref v), (2, .int 0), (0, .ref (adr w 0)), (1, .ref s)] [.int (vf (chI lt) 20 2), .int (vf (chI lt) 20 1), .int (vf (chI lt) 20 0), .ref (adr w 0)] 84
  refine ly_aload_n (pc := 84) 1 rfl dL_types_84 rfl ?_
  refine ly_iconst (pc := 85) (v := 3) dL_types_85 (by decide) ?_
  refine ly_iald (pc := 86) (i := wn w + ws.length) (sp_r app_r) (by decide : ¬ ((3 : Int32) < 0 ∨ 5 ≤ (3 : Int32).toNatClampNeg)) dL_types_86 ?_
  show LW w mu_L_types _ (own w) _ (wd w σ ++ (ws ++ [(v, .inl (wcs w 12, 5, .inl (vf (chI lt) 20)))])) _ _ [(4, .int (i32 20)), (3, .ref v), (2, .int 0), (0, .ref (adr w 0)), (1, .ref s)] [.int (vf (chI lt) 20 3), .int (vf (chI lt) 20 2), .int (vf (chI lt) 20 1), .int (vf (chI lt) 20 0), .ref (adr w 0)] 87
  refine ly_aload_n (pc := 87) 1 rfl dL_types_87 rfl ?_
  refine ly_iconst (pc := 88) (v := 4) dL_types_88 (by decide) ?_
  refine ly_iald (pc := 89) (i := wn w + ws.length) (sp_r app_r) (by decide : ¬ ((4 : Int32) < 0 ∨ 5 ≤ (4 : Int32).toNatClampNeg)) dL_types_89 ?_
  show LW w mu_L_types _ (own w) _ (wd w σ ++ (ws ++ [(v, .inl (wcs w 12, 5, .inl (vf (chI lt) 20)))])) _ _ [(4, .int (i32 20)), (3, .ref v), (2, .int 0), (0, .ref (adr w 0)), (1, .ref s)] [.int (vf (chI lt) 20 4), .int (vf (chI lt) 20 3), .int (vf (chI lt) 20 2), .int (vf (chI lt) 20 1), .int (vf (chI lt) 20 0), .ref (adr w 0)] 90
  refine ly_cV (pc := 90) (As := [.int (vf (chI lt) 20 0), .int (vf (chI lt) 20 1), .int (vf (chI lt) 20 2), .int (vf (chI lt) 20 3), .int (vf (chI lt) 20 4)]) (rest := []) (c_X10_feed hw _ _ e1) ok_X10_feed rfl ⟨Nat.le_of_ble_eq_true rfl, Nat.le_of_ble_eq_true rfl⟩ (all3 gj_759 gj_760 gj_761) h0k rfl rfl (Nat.le_of_ble_eq_true rfl) (by show _ ≤ 1; omega) (by show _ ≤ 5; omega) dL_types_90 ?_
  show LW w mu_L_types _ (own w) _ (wd w τ ++ (ws ++ [(v, .inl (wcs w 12, 5, .inl (vf (chI lt) 20)))])) _ _ [(4, .int (i32 20)), (3, .ref v), (2, .int 0), (0, .ref (adr w 0)), (1, .ref s)] [.int r] 93
  refine ly_pop (pc := 93) dL_types_93 rfl ?_
  refine ly_iinc (pc := 94) (v := 20) (lv' := [(2, .int 20), (4, .int (i32 20)), (3, .ref v), (0, .ref (adr w 0)), (1, .ref s)]) 2 rfl dL_types_94 (by decide) (ltb rfl) rfl ?_
  refine ly_goto (pc := 97) dL_types_97 (tgt := 2) rfl ?_
  refine ly_iload_n (pc := 2) 0 rfl dL_types_2 rfl ?_
  refine ly_aload_n (pc := 3) 4 rfl dL_types_3 rfl ?_
  refine ly_callV (pc := 4) (As := []) (C := RJ0) own_own (sp_r (app_l hs)) rfl rfl (mj_lengthS own_own (sp_r (app_l hs)) (sp_r (app_l hj))) ok_J0_length_8abf5 ⟨Nat.le_of_ble_eq_true rfl, Nat.le_of_ble_eq_true rfl⟩ gj_711 gj_712 (fun C0 => C0.2.2.2.2.2.1 _ gj_713) rfl (rest := [.int 20]) rfl (Nat.le_of_ble_eq_true rfl) (by show _ ≤ 1; omega) (by show _ ≤ 5; omega) dL_types_4 (fun r L2 h => ?_)
  rw [h.1, h.2]
  show LW w mu_L_types _ (own w) _ (wd w τ ++ (ws ++ [(v, .inl (wcs w 12, 5, .inl (vf (chI lt) 20)))])) _ _ [(2, .int 20), (4, .int (i32 20)), (3, .ref v), (0, .ref (adr w 0)), (1, .ref s)] [.int (Int32.ofNat n >>> (0 &&& 31)), .int 20] 7
  rw [len17 n hn]
  refine ly_icmp_ge (pc := 7) dL_types_7 (tgt := 100) rfl (fun _ => ?_) (fun h => absurd (i_le (b := 20) (show n ≤ 20 by omega) (by omega)) h)
  refine ly_lv [3, 4] (lv' := [(0, .ref (adr w 0)), (1, .ref s)]) rfl ?_
  exact ty_end hw h0k (app_l hs) (app_l hj) hn (by omega) (by omega) e2 i2
/-- a text of n letters, typed onto an empty tape -/
theorem mj_types {lt : List Nat} (hlt : lt.length = n) (hg : ∀ k, k < n → g k = i32 (lt.getD k 0)) (hl : ∀ x, x ∈ lt → x < 103 ∧ 97 ≤ x) (hw : WOK w) (h0k : isk w 0 10) (hs : ws[i]? = some (s, stC (.ref q))) (hj : ws[j]? = some (q, byC w n g)) (hn : n < 17) (hI : ICls c S σ) (ht : aP S = []) : MJ w mu_L_types (own w) 1 5 [.ref (adr w 0), .ref s] (wd w σ ++ ws) (ty_postS w (tpS S lt)) := by
  refine mj_of (lv := [(0, .ref (adr w 0)), (1, .ref s)]) ok_L_types rfl (Nat.le_of_ble_eq_true rfl) ?_
  refine ly_iconst (pc := 0) (v := 0) dL_types_0 (by decide) ?_
  refine ly_istore_n (pc := 1) (lv' := [(2, .int 0), (0, .ref (adr w 0)), (1, .ref s)]) dL_types_1 rfl (ltb rfl) rfl ?_
  refine ly_iload_n (pc := 2) 0 rfl dL_types_2 rfl ?_
  refine ly_aload_n (pc := 3) 2 rfl dL_types_3 rfl ?_
  refine ly_callV (pc := 4) (As := []) (C := RJ0) own_own (sp_r hs) rfl rfl (mj_lengthS own_own (sp_r hs) (sp_r hj)) ok_J0_length_8abf5 ⟨Nat.le_of_ble_eq_true rfl, Nat.le_of_ble_eq_true rfl⟩ gj_711 gj_712 (fun C0 => C0.2.2.2.2.2.1 _ gj_713) rfl (rest := [.int 0]) rfl (Nat.le_of_ble_eq_true rfl) (Nat.zero_le _) (Nat.zero_le _) dL_types_4 (fun r L2 h => ?_)
  rw [h.1, h.2]
  show LW w mu_L_types _ (own w) _ (wd w σ ++ ws) _ _ [(2, .int 0), (0, .ref (adr w 0)), (1, .ref s)] [.int (Int32.ofNat n >>> (0 &&& 31)), .int 0] 7
  rw [len17 n hn]
  refine ly_icmp_ge (pc := 7) dL_types_7 (tgt := 100) rfl (fun h => ?_) (fun h => ?_)
  · have hn0 : n = 0 := by have := (cmp17 n hn 0 (by omega)).mp h; omega
    have hlt0 : lt = [] := List.eq_nil_of_length_eq_zero (by omega)
    subst hn0
    subst hlt0
    obtain ⟨υ, e2, i2⟩ := s_end (n := 0) hI (by rw [ht]; exact Nat.zero_le _) (Nat.zero_le _)
    rw [List.take_zero] at i2
    refine ly_lv [1, 2] (lv' := [(0, .ref (adr w 0)), (1, .ref s)]) rfl ?_
    exact ty_end hw h0k hs hj hn (Nat.zero_le _) (Nat.zero_le _) e2 i2
  · have hn0 : 0 < n := Nat.lt_of_not_le (fun z => h ((cmp17 n hn 0 (by omega)).mpr z))
    refine ly_iconst (pc := 10) (v := 5) dL_types_10 (by decide) ?_
    refine ly_newI (pc := 11) (N' := 5) gj_75 (by decide) (by decide) (Nat.le_of_ble_eq_true rfl) (Nat.le_of_ble_eq_true rfl) (Nat.le_of_ble_eq_true rfl) dL_types_11 (fun v => ?_)
    rw [sp_app]
    show LW w mu_L_types _ (own w) _ (wd w σ ++ (ws ++ [(v, .inl (wcs w 12, 5, .inl (vf (chI lt) 0)))])) _ _ [(2, .int 0), (0, .ref (adr w 0)), (1, .ref s)] [.ref v] 13
    refine ly_astore_n (pc := 13) (lv' := [(3, .ref v), (2, .int 0), (0, .ref (adr w 0)), (1, .ref s)]) dL_types_13 rfl (ltb rfl) rfl ?_
    refine ly_iconst (pc := 14) (v := 0) dL_types_14 (by decide) ?_
    refine ly_istore (pc := 15) (lv' := [(4, .int 0), (3, .ref v), (2, .int 0), (0, .ref (adr w 0)), (1, .ref s)]) dL_types_15 (ltb rfl) rfl ?_
    exact ty_loop hlt hg hl hw h0k hs hj hn (ty_feed hlt hl hw h0k hs hj hn hI ht hn0) 20 0 rfl
end TY
