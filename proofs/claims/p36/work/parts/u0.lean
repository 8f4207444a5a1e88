theorem gj_529 : Cond.methodLink RL 37 yX10_consistent ∈ goodTbl := mgP tb_3 30 rfl (by decide +kernel)
theorem gj_530 : Cond.instanceMethod yX10_consistent ∈ goodTbl := mgP tb_3 31 rfl (by decide +kernel)
theorem gj_531 : Cond.selects RX10 yX10_consistent yX10_consistent ∈ goodTbl := mgP tb_3 32 rfl (by decide +kernel)
theorem gj_536 : Cond.methodLink RL 75 yX10_terms ∈ goodTbl := mgP tb_3 37 rfl (by decide +kernel)
theorem gj_537 : Cond.instanceMethod yX10_terms ∈ goodTbl := mgP tb_3 38 rfl (by decide +kernel)
theorem gj_538 : Cond.selects RX10 yX10_terms yX10_terms ∈ goodTbl := mgP tb_3 39 rfl (by decide +kernel)
theorem gj_548 : Cond.methodLink RL 41 yX10_set ∈ goodTbl := mgP tb_3 49 rfl (by decide +kernel)
theorem gj_549 : Cond.instanceMethod yX10_set ∈ goodTbl := mgP tb_3 50 rfl (by decide +kernel)
theorem gj_550 : Cond.selects RX10 yX10_set yX10_set ∈ goodTbl := mgP tb_3 51 rfl (by decide +kernel)
theorem gj_571 : Cond.methodLink RL 65 yX10_multiply ∈ goodTbl := mgP tb_3 72 rfl (by decide +kernel)
theorem gj_572 : Cond.instanceMethod yX10_multiply ∈ goodTbl := mgP tb_3 73 rfl (by decide +kernel)
theorem gj_573 : Cond.selects RX10 yX10_multiply yX10_multiply ∈ goodTbl := mgP tb_3 74 rfl (by decide +kernel)
theorem gj_598 : Cond.methodLink RL 93 yX10_collect ∈ goodTbl := mgP tb_3 99 rfl (by decide +kernel)
theorem gj_599 : Cond.instanceMethod yX10_collect ∈ goodTbl := mgP tb_3 100 rfl (by decide +kernel)
theorem gj_600 : Cond.selects RX10 yX10_collect yX10_collect ∈ goodTbl := mgP tb_3 101 rfl (by decide +kernel)
theorem gj_606 : Cond.methodLink RL 100 yX10_collected ∈ goodTbl := mgP tb_3 107 rfl (by decide +kernel)
theorem gj_607 : Cond.instanceMethod yX10_collected ∈ goodTbl := mgP tb_3 108 rfl (by decide +kernel)
theorem gj_608 : Cond.selects RX10 yX10_collected yX10_collected ∈ goodTbl := mgP tb_3 109 rfl (by decide +kernel)
theorem gj_610 : Cond.methodLink RL 45 yX10_exponent ∈ goodTbl := mgP tb_3 111 rfl (by decide +kernel)
theorem gj_611 : Cond.instanceMethod yX10_exponent ∈ goodTbl := mgP tb_3 112 rfl (by decide +kernel)
theorem gj_612 : Cond.selects RX10 yX10_exponent yX10_exponent ∈ goodTbl := mgP tb_3 113 rfl (by decide +kernel)
theorem gj_614 : Cond.methodLink RL 107 yX10_associates ∈ goodTbl := mgP tb_3 115 rfl (by decide +kernel)
theorem gj_615 : Cond.instanceMethod yX10_associates ∈ goodTbl := mgP tb_3 116 rfl (by decide +kernel)
theorem gj_616 : Cond.selects RX10 yX10_associates yX10_associates ∈ goodTbl := mgP tb_3 117 rfl (by decide +kernel)
theorem gj_621 : Cond.methodLink RL 9 yL_cell ∈ goodTbl := mgP tb_3 122 rfl (by decide +kernel)
theorem gj_622 : Cond.static yL_cell ∈ goodTbl := mgP tb_3 123 rfl (by decide +kernel)
theorem gj_625 : Cond.methodLink RL 15 yL_between ∈ goodTbl := mgP tb_3 126 rfl (by decide +kernel)
theorem gj_626 : Cond.static yL_between ∈ goodTbl := mgP tb_3 127 rfl (by decide +kernel)
theorem gj_629 : Cond.methodLink RL 72 yL_group ∈ goodTbl := mgP tb_3 130 rfl (by decide +kernel)
theorem gj_630 : Cond.static yL_group ∈ goodTbl := mgP tb_3 131 rfl (by decide +kernel)
theorem gj_699 : Cond.methodLink RL 103 yL_sets ∈ goodTbl := mgP tb_3 200 rfl (by decide +kernel)
theorem gj_700 : Cond.static yL_sets ∈ goodTbl := mgP tb_3 201 rfl (by decide +kernel)
theorem gj_702 : Cond.methodLink RL 118 yL_isOne ∈ goodTbl := mgP tb_3 203 rfl (by decide +kernel)
theorem gj_703 : Cond.static yL_isOne ∈ goodTbl := mgP tb_3 204 rfl (by decide +kernel)
theorem gj_705 : Cond.methodLink RL 110 yL_areSame ∈ goodTbl := mgP tb_3 206 rfl (by decide +kernel)
theorem gj_706 : Cond.static yL_areSame ∈ goodTbl := mgP tb_3 207 rfl (by decide +kernel)
theorem gj_708 : Cond.methodLink RL 89 yL_types ∈ goodTbl := mgP tb_3 209 rfl (by decide +kernel)
theorem gj_709 : Cond.static yL_types ∈ goodTbl := mgP tb_3 210 rfl (by decide +kernel)
theorem gj_771 : Cond.methodLink RL 96 yL_makes ∈ goodTbl := mgP tb_4 32 rfl (by decide +kernel)
theorem gj_772 : Cond.static yL_makes ∈ goodTbl := mgP tb_4 33 rfl (by decide +kernel)
theorem gj_774 : Cond.methodLink RL 114 yL_inverts ∈ goodTbl := mgP tb_4 35 rfl (by decide +kernel)
theorem gj_775 : Cond.static yL_inverts ∈ goodTbl := mgP tb_4 36 rfl (by decide +kernel)
theorem gj_785 : Cond.classLink RL 78 "java/lang/StringBuilder" ∈ goodTbl := mgP tb_4 46 rfl (by decide +kernel)
theorem gj_786 : Cond.instantiable RJ4 4 ∈ goodTbl := mgP tb_4 47 rfl (by decide +kernel)
theorem gj_787 : Cond.methodLink RL 80 yJ4_init_da8c8 ∈ goodTbl := mgP tb_4 48 rfl (by decide +kernel)
theorem gj_788 : Cond.instanceMethod yJ4_init_da8c8 ∈ goodTbl := mgP tb_4 49 rfl (by decide +kernel)
theorem gj_816 : Cond.methodLink RL 81 yJ4_append_cf468 ∈ goodTbl := mgP tb_4 77 rfl (by decide +kernel)
theorem gj_817 : Cond.instanceMethod yJ4_append_cf468 ∈ goodTbl := mgP tb_4 78 rfl (by decide +kernel)
theorem gj_818 : Cond.selects RJ4 yJ4_append_cf468 yJ4_append_cf468 ∈ goodTbl := mgP tb_4 79 rfl (by decide +kernel)
theorem gj_885 : Cond.methodLink RL 85 yJ4_toString_0e30d ∈ goodTbl := mgP tb_4 146 rfl (by decide +kernel)
theorem gj_886 : Cond.instanceMethod yJ4_toString_0e30d ∈ goodTbl := mgP tb_4 147 rfl (by decide +kernel)
theorem gj_887 : Cond.selects RJ4 yJ4_toString_0e30d yJ4_toString_0e30d ∈ goodTbl := mgP tb_4 148 rfl (by decide +kernel)
/-! p36: the law, walked -/
abbrev mu_L_law : MD := (yL_law, cL_law, 9, some .boolean, 9)
abbrev QW (w : Wd) : QF := QM w (own w) (fun r _ => r = some (.int 1)) 600000 7302250
section LAW
variable {w : Wd} {σ : Mem} {ws : va_W} {G : GD} {R : Nat → Nat → Int} {P : List Nat} {T : Nat × (Nat → Int32)} {k sl j : Nat}
/-- cells of the law's own may be forgotten -/
theorem ly_forget {μ : MD} {R0 : Room} {Q : QF} {lv : List (Nat × Value)} {st : List Value} {pc : Nat} (kk : LW w μ R0 (own w) Q (wd w σ ++ []) k sl lv st pc) : LW w μ R0 (own w) Q (wd w σ ++ ws) k sl lv st pc := by
  intro p e s m args below meth c H locs ls C N hA hP hD hS hl
  obtain ⟨hR, -⟩ := sp_P hP
  refine kk p e s m args below meth c H locs ls C N hA ?_ ?_ hS hl
  · rw [List.append_nil]; exact hR
  · rw [List.append_nil]; exact wd_D.weaken (fun _ _ _ h => h.1)
theorem lw_true {L : va_W} {lv : List (Nat × Value)} (hk : k ≤ 600000) (hs : sl ≤ 7302250) : LW w mu_L_law room_1 (own w) (QW w) (L) k sl lv [] 575 := by
  refine ly_iconst (pc := 575) (v := 1) dL_law_575 (by decide) ?_
  refine ly_widen (k' := 600000) (sl' := 7302250) hk hs ?_
  exact ly_zret (ty := .boolean) rfl rfl rfl rfl rfl dL_law_576
theorem l2_next {x4 x5 x6 : Value} (kk : LW w mu_L_law room_1 (own w) (QW w) (wd w σ ++ ws) k sl [(3, .int (i32 (j + 1))), (0, .ref (wt w 3)), (1, .ref (adr w 0)), (2, .int (i32 (gn G)))] [] 312) : LW w mu_L_law room_1 (own w) (QW w) (wd w σ ++ ws) k sl [(6, x6), (5, x5), (4, x4), (3, .int (i32 j)), (0, .ref (wt w 3)), (1, .ref (adr w 0)), (2, .int (i32 (gn G)))] [] 569 := by
  refine ly_iinc (pc := 569) (v := (i32 (j + 1))) (lv' := [(3, .int (i32 (j + 1))), (6, x6), (5, x5), (4, x4), (0, .ref (wt w 3)), (1, .ref (adr w 0)), (2, .int (i32 (gn G)))]) 3 rfl dL_law_569 (by rw [show Int32.ofInt 1 = i32 1 from rfl, i32_add]) (ltb rfl) rfl ?_
  refine ly_goto (pc := 572) dL_law_572 (tgt := 312) rfl ?_
  refine ly_lv [0, 4, 5, 6] (lv' := [(3, .int (i32 (j + 1))), (0, .ref (wt w 3)), (1, .ref (adr w 0)), (2, .int (i32 (gn G)))]) rfl ?_
  exact kk
theorem l2_450 {x4 x5 : Int32} (hw : WOK w) (h0k : isk w 0 10) (hl : wt w 4 ≤ 260) (hK : KJ G R [] T σ) (hc : Cons G) (kk : ∀ σ' R', KJ G R' [] T σ' → LW w mu_L_law room_1 (own w) (QW w) (wd w σ' ++ ws) k sl [(3, .int (i32 (j + 1))), (0, .ref (wt w 3)), (1, .ref (adr w 0)), (2, .int (i32 (gn G)))] [] 312) (hk : k ≤ 500000) (hs : sl ≤ 6000000) : LW w mu_L_law room_1 (own w) (QW w) (wd w σ ++ ws) k sl [(5, .int x5), (4, .int x4), (3, .int (i32 j)), (0, .ref (wt w 3)), (1, .ref (adr w 0)), (2, .int (i32 (gn G)))] [] 450 := by
  have hkR : k ≤ room_1.cells := Nat.le_trans hk (Nat.le_of_ble_eq_true rfl)
  have hsR : sl ≤ room_1.slots := Nat.le_trans hs (Nat.le_of_ble_eq_true rfl)
  rcases k_inverts hK hc (r := 5) (p := 0) (by omega) (by omega) with ⟨-, τ1, e1, k1⟩ | ⟨-, τ1, e1, k1⟩
  · obtain ⟨τ2, τ3, τ4, τ5, R5, e2, f2, e3, f3, e4, f4, e5, f5, k5⟩ := k_inv_round hK hc k1
    refine ly_aload_n (pc := 450) 4 rfl dL_law_450 rfl ?_
    refine ly_iconst (pc := 451) (v := 5) dL_law_451 (by decide) ?_
    refine ly_iconst (pc := 452) (v := 0) dL_law_452 (by decide) ?_
    refine ly_cS (pc := 453) (As := [.ref (adr w 0), .int 5, .int 0]) (rest := []) (c_L_inverts hw _ _ e1) ok_L_inverts ⟨Nat.le_of_ble_eq_true rfl, Nat.le_of_ble_eq_true rfl⟩ (all2 gj_774 gj_775) rfl rfl (Nat.le_of_ble_eq_true rfl) hkR hsR dL_law_453 ?_
    show LW w mu_L_law _ (own w) _ (wd w τ1 ++ ws) _ _ [(5, .int x5), (4, .int x4), (3, .int (i32 j)), (0, .ref (wt w 3)), (1, .ref (adr w 0)), (2, .int (i32 (gn G)))] [.int 1] 456
    refine ly_istore (pc := 456) (lv' := [(6, .int 1), (5, .int x5), (4, .int x4), (3, .int (i32 j)), (0, .ref (wt w 3)), (1, .ref (adr w 0)), (2, .int (i32 (gn G)))]) dL_law_456 (ltb rfl) rfl ?_
    refine ly_iload (pc := 458) 0 rfl dL_law_458 ?_
    refine ly_if_ge (pc := 460) dL_law_460 (tgt := 465) rfl (fun _ => ?_) (fun h => absurd (by decide : (0 : Int32) ≤ 1) h)
    refine ly_iload (pc := 465) 0 rfl dL_law_465 ?_
    refine ly_if_ne (pc := 467) dL_law_467 (tgt := 473) rfl (fun _ => ?_) (fun h => absurd h (by decide))
    refine ly_aload_n (pc := 473) 5 rfl dL_law_473 rfl ?_
    refine ly_bipush (pc := 474) (v := 6) dL_law_474 (by decide) ?_
    refine ly_iconst (pc := 476) (v := 0) dL_law_476 (by decide) ?_
    refine ly_iconst (pc := 477) (v := 5) dL_law_477 (by decide) ?_
    refine ly_cS (pc := 478) (As := [.ref (adr w 0), .int 6, .int 0, .int 5]) (rest := []) (c_L_makes hw _ _ e2) ok_L_makes ⟨Nat.le_of_ble_eq_true rfl, Nat.le_of_ble_eq_true rfl⟩ (all2 gj_771 gj_772) rfl rfl (Nat.le_of_ble_eq_true rfl) hkR hsR dL_law_478 ?_
    show LW w mu_L_law _ (own w) _ (wd w τ2 ++ ws) _ _ [(6, .int 1), (5, .int x5), (4, .int x4), (3, .int (i32 j)), (0, .ref (wt w 3)), (1, .ref (adr w 0)), (2, .int (i32 (gn G)))] [.int 1] 481
    refine ly_iconst (pc := 481) (v := 1) dL_law_481 (by decide) ?_
    refine ly_icmp_ne (pc := 482) dL_law_482 (tgt := 517) rfl (fun h => absurd rfl h) (fun _ => ?_)
    refine ly_aload_n (pc := 485) 5 rfl dL_law_485 rfl ?_
    refine ly_bipush (pc := 486) (v := 6) dL_law_486 (by decide) ?_
    refine ly_iload_n (pc := 488) 6 rfl dL_law_488 rfl ?_
    refine ly_cS (pc := 489) (As := [.ref (adr w 0), .int 6, .int (i32 (gn G))]) (rest := []) (c_L_isOne hw _ f2) ok_L_isOne ⟨Nat.le_of_ble_eq_true rfl, Nat.le_of_ble_eq_true rfl⟩ (all2 gj_702 gj_703) rfl rfl (Nat.le_of_ble_eq_true rfl) hkR hsR dL_law_489 ?_
    show LW w mu_L_law _ (own w) _ (wd w τ2 ++ ws) _ _ [(6, .int 1), (5, .int x5), (4, .int x4), (3, .int (i32 j)), (0, .ref (wt w 3)), (1, .ref (adr w 0)), (2, .int (i32 (gn G)))] [.int (b2i true)] 492
    refine ly_if_eq (pc := 492) dL_law_492 (tgt := 517) rfl (fun h => absurd h (by decide)) (fun _ => ?_)
    refine ly_aload_n (pc := 495) 5 rfl dL_law_495 rfl ?_
    refine ly_bipush (pc := 496) (v := 6) dL_law_496 (by decide) ?_
    refine ly_iconst (pc := 498) (v := 5) dL_law_498 (by decide) ?_
    refine ly_iconst (pc := 499) (v := 0) dL_law_499 (by decide) ?_
    refine ly_cS (pc := 500) (As := [.ref (adr w 0), .int 6, .int 5, .int 0]) (rest := []) (c_L_makes hw _ _ e3) ok_L_makes ⟨Nat.le_of_ble_eq_true rfl, Nat.le_of_ble_eq_true rfl⟩ (all2 gj_771 gj_772) rfl rfl (Nat.le_of_ble_eq_true rfl) hkR hsR dL_law_500 ?_
    show LW w mu_L_law _ (own w) _ (wd w τ3 ++ ws) _ _ [(6, .int 1), (5, .int x5), (4, .int x4), (3, .int (i32 j)), (0, .ref (wt w 3)), (1, .ref (adr w 0)), (2, .int (i32 (gn G)))] [.int 1] 503
    refine ly_iconst (pc := 503) (v := 1) dL_law_503 (by decide) ?_
    refine ly_icmp_ne (pc := 504) dL_law_504 (tgt := 517) rfl (fun h => absurd rfl h) (fun _ => ?_)
    refine ly_aload_n (pc := 507) 5 rfl dL_law_507 rfl ?_
    refine ly_bipush (pc := 508) (v := 6) dL_law_508 (by decide) ?_
    refine ly_iload_n (pc := 510) 6 rfl dL_law_510 rfl ?_
    refine ly_cS (pc := 511) (As := [.ref (adr w 0), .int 6, .int (i32 (gn G))]) (rest := []) (c_L_isOne hw _ f3) ok_L_isOne ⟨Nat.le_of_ble_eq_true rfl, Nat.le_of_ble_eq_true rfl⟩ (all2 gj_702 gj_703) rfl rfl (Nat.le_of_ble_eq_true rfl) hkR hsR dL_law_511 ?_
    show LW w mu_L_law _ (own w) _ (wd w τ3 ++ ws) _ _ [(6, .int 1), (5, .int x5), (4, .int x4), (3, .int (i32 j)), (0, .ref (wt w 3)), (1, .ref (adr w 0)), (2, .int (i32 (gn G)))] [.int (b2i true)] 514
    refine ly_if_ne (pc := 514) dL_law_514 (tgt := 519) rfl (fun _ => ?_) (fun h => absurd h (by decide))
    refine ly_aload_n (pc := 519) 5 rfl dL_law_519 rfl ?_
    refine ly_bipush (pc := 520) (v := 7) dL_law_520 (by decide) ?_
    refine ly_iconst (pc := 522) (v := 0) dL_law_522 (by decide) ?_
    refine ly_bipush (pc := 523) (v := 6) dL_law_523 (by decide) ?_
    refine ly_cS (pc := 525) (As := [.ref (adr w 0), .int 7, .int 0, .int 6]) (rest := []) (c_L_makes hw _ _ e4) ok_L_makes ⟨Nat.le_of_ble_eq_true rfl, Nat.le_of_ble_eq_true rfl⟩ (all2 gj_771 gj_772) rfl rfl (Nat.le_of_ble_eq_true rfl) hkR hsR dL_law_525 ?_
    show LW w mu_L_law _ (own w) _ (wd w τ4 ++ ws) _ _ [(6, .int 1), (5, .int x5), (4, .int x4), (3, .int (i32 j)), (0, .ref (wt w 3)), (1, .ref (adr w 0)), (2, .int (i32 (gn G)))] [.int 1] 528
    refine ly_iconst (pc := 528) (v := 1) dL_law_528 (by decide) ?_
    refine ly_icmp_ne (pc := 529) dL_law_529 (tgt := 567) rfl (fun h => absurd rfl h) (fun _ => ?_)
    refine ly_aload_n (pc := 532) 5 rfl dL_law_532 rfl ?_
    refine ly_bipush (pc := 533) (v := 7) dL_law_533 (by decide) ?_
    refine ly_iconst (pc := 535) (v := 0) dL_law_535 (by decide) ?_
    refine ly_iload_n (pc := 536) 6 rfl dL_law_536 rfl ?_
    refine ly_cS (pc := 537) (As := [.ref (adr w 0), .int 7, .int 0, .int (i32 (gn G))]) (rest := []) (c_L_areSame hw _ f4) ok_L_areSame ⟨Nat.le_of_ble_eq_true rfl, Nat.le_of_ble_eq_true rfl⟩ (all2 gj_705 gj_706) rfl rfl (Nat.le_of_ble_eq_true rfl) hkR hsR dL_law_537 ?_
    show LW w mu_L_law _ (own w) _ (wd w τ4 ++ ws) _ _ [(6, .int 1), (5, .int x5), (4, .int x4), (3, .int (i32 j)), (0, .ref (wt w 3)), (1, .ref (adr w 0)), (2, .int (i32 (gn G)))] [.int (b2i true)] 540
    refine ly_if_eq (pc := 540) dL_law_540 (tgt := 567) rfl (fun h => absurd h (by decide)) (fun _ => ?_)
    refine ly_aload_n (pc := 543) 5 rfl dL_law_543 rfl ?_
    refine ly_bipush (pc := 544) (v := 7) dL_law_544 (by decide) ?_
    refine ly_bipush (pc := 546) (v := 6) dL_law_546 (by decide) ?_
    refine ly_iconst (pc := 548) (v := 0) dL_law_548 (by decide) ?_
    refine ly_cS (pc := 549) (As := [.ref (adr w 0), .int 7, .int 6, .int 0]) (rest := []) (c_L_makes hw _ _ e5) ok_L_makes ⟨Nat.le_of_ble_eq_true rfl, Nat.le_of_ble_eq_true rfl⟩ (all2 gj_771 gj_772) rfl rfl (Nat.le_of_ble_eq_true rfl) hkR hsR dL_law_549 ?_
    show LW w mu_L_law _ (own w) _ (wd w τ5 ++ ws) _ _ [(6, .int 1), (5, .int x5), (4, .int x4), (3, .int (i32 j)), (0, .ref (wt w 3)), (1, .ref (adr w 0)), (2, .int (i32 (gn G)))] [.int 1] 552
    refine ly_iconst (pc := 552) (v := 1) dL_law_552 (by decide) ?_
    refine ly_icmp_ne (pc := 553) dL_law_553 (tgt := 567) rfl (fun h => absurd rfl h) (fun _ => ?_)
    refine ly_aload_n (pc := 556) 5 rfl dL_law_556 rfl ?_
    refine ly_bipush (pc := 557) (v := 7) dL_law_557 (by decide) ?_
    refine ly_iconst (pc := 559) (v := 0) dL_law_559 (by decide) ?_
    refine ly_iload_n (pc := 560) 6 rfl dL_law_560 rfl ?_
    refine ly_cS (pc := 561) (As := [.ref (adr w 0), .int 7, .int 0, .int (i32 (gn G))]) (rest := []) (c_L_areSame hw _ f5) ok_L_areSame ⟨Nat.le_of_ble_eq_true rfl, Nat.le_of_ble_eq_true rfl⟩ (all2 gj_705 gj_706) rfl rfl (Nat.le_of_ble_eq_true rfl) hkR hsR dL_law_561 ?_
    show LW w mu_L_law _ (own w) _ (wd w τ5 ++ ws) _ _ [(6, .int 1), (5, .int x5), (4, .int x4), (3, .int (i32 j)), (0, .ref (wt w 3)), (1, .ref (adr w 0)), (2, .int (i32 (gn G)))] [.int (b2i true)] 564
    refine ly_if_ne (pc := 564) dL_law_564 (tgt := 569) rfl (fun _ => ?_) (fun h => absurd h (by decide))
    exact l2_next (kk _ _ k5)
  · refine ly_aload_n (pc := 450) 4 rfl dL_law_450 rfl ?_
    refine ly_iconst (pc := 451) (v := 5) dL_law_451 (by decide) ?_
    refine ly_iconst (pc := 452) (v := 0) dL_law_452 (by decide) ?_
    refine ly_cS (pc := 453) (As := [.ref (adr w 0), .int 5, .int 0]) (rest := []) (c_L_inverts hw _ _ e1) ok_L_inverts ⟨Nat.le_of_ble_eq_true rfl, Nat.le_of_ble_eq_true rfl⟩ (all2 gj_774 gj_775) rfl rfl (Nat.le_of_ble_eq_true rfl) hkR hsR dL_law_453 ?_
    show LW w mu_L_law _ (own w) _ (wd w τ1 ++ ws) _ _ [(5, .int x5), (4, .int x4), (3, .int (i32 j)), (0, .ref (wt w 3)), (1, .ref (adr w 0)), (2, .int (i32 (gn G)))] [.int 0] 456
    refine ly_istore (pc := 456) (lv' := [(6, .int 0), (5, .int x5), (4, .int x4), (3, .int (i32 j)), (0, .ref (wt w 3)), (1, .ref (adr w 0)), (2, .int (i32 (gn G)))]) dL_law_456 (ltb rfl) rfl ?_
    refine ly_iload (pc := 458) 0 rfl dL_law_458 ?_
    refine ly_if_ge (pc := 460) dL_law_460 (tgt := 465) rfl (fun _ => ?_) (fun h => absurd (by decide : (0 : Int32) ≤ 0) h)
    refine ly_iload (pc := 465) 0 rfl dL_law_465 ?_
    refine ly_if_ne (pc := 467) dL_law_467 (tgt := 473) rfl (fun h => absurd rfl h) (fun _ => ?_)
    refine ly_goto (pc := 470) dL_law_470 (tgt := 569) rfl ?_
    exact l2_next (kk _ _ k1)
theorem l2_416 {x y : Int32} (hw : WOK w) (h0k : isk w 0 10) (hl : wt w 4 ≤ 260) (hx : x = 1 ∨ x = 0) (hy : y = 1 ∨ y = 0) (hsame : x = 1 → y = 1 → f_L_areSame σ 3 4 (i32 (gn G)) = some true) (kk : LW w mu_L_law room_1 (own w) (QW w) (wd w σ ++ ws) k sl [(5, .int y), (4, .int x), (3, .int (i32 j)), (0, .ref (wt w 3)), (1, .ref (adr w 0)), (2, .int (i32 (gn G)))] [] 450) (hk : k ≤ 500000) (hs : sl ≤ 6000000) : LW w mu_L_law room_1 (own w) (QW w) (wd w σ ++ ws) k sl [(5, .int y), (4, .int x), (3, .int (i32 j)), (0, .ref (wt w 3)), (1, .ref (adr w 0)), (2, .int (i32 (gn G)))] [] 416 := by
  have hkR : k ≤ room_1.cells := Nat.le_trans hk (Nat.le_of_ble_eq_true rfl)
  have hsR : sl ≤ room_1.slots := Nat.le_trans hs (Nat.le_of_ble_eq_true rfl)
  refine ly_iload (pc := 416) 1 rfl dL_law_416 ?_
  refine ly_if_lt (pc := 418) dL_law_418 (tgt := 448) rfl (fun h => absurd h (by rcases hx with rfl | rfl <;> decide)) (fun _ => ?_)
  refine ly_iload (pc := 421) 0 rfl dL_law_421 ?_
  refine ly_if_lt (pc := 423) dL_law_423 (tgt := 448) rfl (fun h => absurd h (by rcases hy with rfl | rfl <;> decide)) (fun _ => ?_)
  refine ly_iload (pc := 426) 1 rfl dL_law_426 ?_
  refine ly_iconst (pc := 428) (v := 1) dL_law_428 (by decide) ?_
  refine ly_icmp_ne (pc := 429) dL_law_429 (tgt := 450) rfl (fun h => ?_) (fun h => ?_)
  · exact kk
  · have h1 : x = 1 := h
    refine ly_iload (pc := 432) 0 rfl dL_law_432 ?_
    refine ly_iconst (pc := 434) (v := 1) dL_law_434 (by decide) ?_
    refine ly_icmp_ne (pc := 435) dL_law_435 (tgt := 450) rfl (fun h => ?_) (fun h => ?_)
    · exact kk
    · have h2 : y = 1 := h
      refine ly_aload_n (pc := 438) 4 rfl dL_law_438 rfl ?_
      refine ly_iconst (pc := 439) (v := 3) dL_law_439 (by decide) ?_
      refine ly_iconst (pc := 440) (v := 4) dL_law_440 (by decide) ?_
      refine ly_iload_n (pc := 441) 5 rfl dL_law_441 rfl ?_
      refine ly_cS (pc := 442) (As := [.ref (adr w 0), .int 3, .int 4, .int (i32 (gn G))]) (rest := []) (c_L_areSame hw _ (hsame h1 h2)) ok_L_areSame ⟨Nat.le_of_ble_eq_true rfl, Nat.le_of_ble_eq_true rfl⟩ (all2 gj_705 gj_706) rfl rfl (Nat.le_of_ble_eq_true rfl) hkR hsR dL_law_442 ?_
      show LW w mu_L_law _ (own w) _ (wd w σ ++ ws) _ _ [(5, .int y), (4, .int x), (3, .int (i32 j)), (0, .ref (wt w 3)), (1, .ref (adr w 0)), (2, .int (i32 (gn G)))] [.int (b2i true)] 445
      refine ly_if_ne (pc := 445) dL_law_445 (tgt := 450) rfl (fun _ => ?_) (fun h => absurd h (by decide))
      exact kk
theorem l2_392 {x : Int32} {A0 A1 A2 : Nat → Int} (hw : WOK w) (h0k : isk w 0 10) (hl : wt w 4 ≤ 260) (hK : KJ G R [] T σ) (hc : Cons G) (s0 : SB G 999 A0) (s1 : SB G 999 A1) (s2 : SB G 999 A2) (z0 : Z6 G A0) (z1 : Z6 G A1) (r0 : rp G R 0 A0) (r1 : rp G R 1 A1) (r2 : rp G R 2 A2) (hx : x = 1 ∨ x = 0) (hx3 : x = 1 → rp G R 3 (mul G (mul G A0 A1) A2)) (kk : ∀ (x y : Int32) σ' R', KJ G R' [] T σ' → LW w mu_L_law room_1 (own w) (QW w) (wd w σ' ++ ws) k sl [(5, .int y), (4, .int x), (3, .int (i32 j)), (0, .ref (wt w 3)), (1, .ref (adr w 0)), (2, .int (i32 (gn G)))] [] 450) (hk : k ≤ 500000) (hs : sl ≤ 6000000) : LW w mu_L_law room_1 (own w) (QW w) (wd w σ ++ ws) k sl [(4, .int x), (3, .int (i32 j)), (0, .ref (wt w 3)), (1, .ref (adr w 0)), (2, .int (i32 (gn G)))] [] 392 := by
  have hkR : k ≤ room_1.cells := Nat.le_trans hk (Nat.le_of_ble_eq_true rfl)
  have hsR : sl ≤ room_1.slots := Nat.le_trans hs (Nat.le_of_ble_eq_true rfl)
  have hG := hK.g
  have hJ : Jac G := Cons.jac hG hc
  rcases k_makes hK hc (r := 4) (p := 1) (q := 2) (by omega) (by omega) (by omega) r1 r2 with ⟨-, τ1, e1, k1⟩ | ⟨-, τ1, e1, k1⟩
  · refine ly_aload_n (pc := 392) 3 rfl dL_law_392 rfl ?_
    refine ly_iconst (pc := 393) (v := 4) dL_law_393 (by decide) ?_
    refine ly_iconst (pc := 394) (v := 1) dL_law_394 (by decide) ?_
    refine ly_iconst (pc := 395) (v := 2) dL_law_395 (by decide) ?_
    refine ly_cS (pc := 396) (As := [.ref (adr w 0), .int 4, .int 1, .int 2]) (rest := []) (c_L_makes hw _ _ e1) ok_L_makes ⟨Nat.le_of_ble_eq_true rfl, Nat.le_of_ble_eq_true rfl⟩ (all2 gj_771 gj_772) rfl rfl (Nat.le_of_ble_eq_true rfl) hkR hsR dL_law_396 ?_
    show LW w mu_L_law _ (own w) _ (wd w τ1 ++ ws) _ _ [(4, .int x), (3, .int (i32 j)), (0, .ref (wt w 3)), (1, .ref (adr w 0)), (2, .int (i32 (gn G)))] [.int 1] 399
    refine ly_istore (pc := 399) (lv' := [(5, .int 1), (4, .int x), (3, .int (i32 j)), (0, .ref (wt w 3)), (1, .ref (adr w 0)), (2, .int (i32 (gn G)))]) dL_law_399 (ltb rfl) rfl ?_
    refine ly_iload (pc := 401) 0 rfl dL_law_401 ?_
    refine ly_iconst (pc := 403) (v := 1) dL_law_403 (by decide) ?_
    refine ly_icmp_ne (pc := 404) dL_law_404 (tgt := 416) rfl (fun h => absurd rfl h) (fun _ => ?_)
    have n4 : rp G (upR G R 4 (mul G A1 A2)) 4 (mul G A1 A2) := rp.new (z1.muls hG) ((s1.mul hG s2).up (by omega))
    rcases k_makes k1 hc (r := 4) (p := 0) (q := 4) (by omega) (by omega) (by omega) (r0.keep (by omega)) n4 with ⟨-, τ2, e2, k2⟩ | ⟨-, τ2, e2, k2⟩
    · refine ly_aload_n (pc := 407) 4 rfl dL_law_407 rfl ?_
      refine ly_iconst (pc := 408) (v := 4) dL_law_408 (by decide) ?_
      refine ly_iconst (pc := 409) (v := 0) dL_law_409 (by decide) ?_
      refine ly_iconst (pc := 410) (v := 4) dL_law_410 (by decide) ?_
      refine ly_cS (pc := 411) (As := [.ref (adr w 0), .int 4, .int 0, .int 4]) (rest := []) (c_L_makes hw _ _ e2) ok_L_makes ⟨Nat.le_of_ble_eq_true rfl, Nat.le_of_ble_eq_true rfl⟩ (all2 gj_771 gj_772) rfl rfl (Nat.le_of_ble_eq_true rfl) hkR hsR dL_law_411 ?_
      show LW w mu_L_law _ (own w) _ (wd w τ2 ++ ws) _ _ [(5, .int 1), (4, .int x), (3, .int (i32 j)), (0, .ref (wt w 3)), (1, .ref (adr w 0)), (2, .int (i32 (gn G)))] [.int 1] 414
      refine ly_istore (pc := 414) (lv' := [(5, .int 1), (4, .int x), (3, .int (i32 j)), (0, .ref (wt w 3)), (1, .ref (adr w 0)), (2, .int (i32 (gn G)))]) dL_law_414 (ltb rfl) rfl ?_
      exact l2_416 hw h0k hl hx (Or.inl rfl) (fun h1 _ => k_same k2 (p := 3) (q := 4) (by omega) (by omega) (((hx3 h1).keep (by omega)).keep (by omega)) (rp.new (z0.muls hG) ((s0.mul hG (s1.mul hG s2)).up (by omega))) (massoc hG hJ)) (kk _ _ _ _ k2) hk hs
    · refine ly_aload_n (pc := 407) 4 rfl dL_law_407 rfl ?_
      refine ly_iconst (pc := 408) (v := 4) dL_law_408 (by decide) ?_
      refine ly_iconst (pc := 409) (v := 0) dL_law_409 (by decide) ?_
      refine ly_iconst (pc := 410) (v := 4) dL_law_410 (by decide) ?_
      refine ly_cS (pc := 411) (As := [.ref (adr w 0), .int 4, .int 0, .int 4]) (rest := []) (c_L_makes hw _ _ e2) ok_L_makes ⟨Nat.le_of_ble_eq_true rfl, Nat.le_of_ble_eq_true rfl⟩ (all2 gj_771 gj_772) rfl rfl (Nat.le_of_ble_eq_true rfl) hkR hsR dL_law_411 ?_
      show LW w mu_L_law _ (own w) _ (wd w τ2 ++ ws) _ _ [(5, .int 1), (4, .int x), (3, .int (i32 j)), (0, .ref (wt w 3)), (1, .ref (adr w 0)), (2, .int (i32 (gn G)))] [.int 0] 414
      refine ly_istore (pc := 414) (lv' := [(5, .int 0), (4, .int x), (3, .int (i32 j)), (0, .ref (wt w 3)), (1, .ref (adr w 0)), (2, .int (i32 (gn G)))]) dL_law_414 (ltb rfl) rfl ?_
      exact l2_416 hw h0k hl hx (Or.inr rfl) (fun _ h2 => absurd h2 (by decide)) (kk _ _ _ _ k2) hk hs
  · refine ly_aload_n (pc := 392) 3 rfl dL_law_392 rfl ?_
    refine ly_iconst (pc := 393) (v := 4) dL_law_393 (by decide) ?_
    refine ly_iconst (pc := 394) (v := 1) dL_law_394 (by decide) ?_
    refine ly_iconst (pc := 395) (v := 2) dL_law_395 (by decide) ?_
    refine ly_cS (pc := 396) (As := [.ref (adr w 0), .int 4, .int 1, .int 2]) (rest := []) (c_L_makes hw _ _ e1) ok_L_makes ⟨Nat.le_of_ble_eq_true rfl, Nat.le_of_ble_eq_true rfl⟩ (all2 gj_771 gj_772) rfl rfl (Nat.le_of_ble_eq_true rfl) hkR hsR dL_law_396 ?_
    show LW w mu_L_law _ (own w) _ (wd w τ1 ++ ws) _ _ [(4, .int x), (3, .int (i32 j)), (0, .ref (wt w 3)), (1, .ref (adr w 0)), (2, .int (i32 (gn G)))] [.int 0] 399
    refine ly_istore (pc := 399) (lv' := [(5, .int 0), (4, .int x), (3, .int (i32 j)), (0, .ref (wt w 3)), (1, .ref (adr w 0)), (2, .int (i32 (gn G)))]) dL_law_399 (ltb rfl) rfl ?_
    refine ly_iload (pc := 401) 0 rfl dL_law_401 ?_
    refine ly_iconst (pc := 403) (v := 1) dL_law_403 (by decide) ?_
    refine ly_icmp_ne (pc := 404) dL_law_404 (tgt := 416) rfl (fun _ => ?_) (fun h => absurd h (by decide))
    exact l2_416 hw h0k hl hx (Or.inr rfl) (fun _ h2 => absurd h2 (by decide)) (kk _ _ _ _ k1) hk hs
theorem l2_355 {x4 : Value} (hw : WOK w) (h0k : isk w 0 10) (hl : wt w 4 ≤ 260) (hK : KJ G R [] T σ) (hc : Cons G) (kk : ∀ (x y : Int32) σ' R', KJ G R' [] T σ' → LW w mu_L_law room_1 (own w) (QW w) (wd w σ' ++ ws) k sl [(5, .int y), (4, .int x), (3, .int (i32 j)), (0, .ref (wt w 3)), (1, .ref (adr w 0)), (2, .int (i32 (gn G)))] [] 450) (hk : k ≤ 500000) (hs : sl ≤ 6000000) : LW w mu_L_law room_1 (own w) (QW w) (wd w σ ++ ws) k sl [(4, x4), (3, .int (i32 j)), (0, .ref (wt w 3)), (1, .ref (adr w 0)), (2, .int (i32 (gn G)))] [] 355 := by
  have hkR : k ≤ room_1.cells := Nat.le_trans hk (Nat.le_of_ble_eq_true rfl)
  have hsR : sl ≤ room_1.slots := Nat.le_trans hs (Nat.le_of_ble_eq_true rfl)
  have hG := hK.g
  obtain ⟨τ0, e0, k0⟩ := k_assoc hK hc (r := 0) (p := 1) (q := 2) (by omega) (by omega) (by omega)
  refine ly_aload_n (pc := 355) 3 rfl dL_law_355 rfl ?_
  refine ly_iconst (pc := 356) (v := 0) dL_law_356 (by decide) ?_
  refine ly_iconst (pc := 357) (v := 1) dL_law_357 (by decide) ?_
  refine ly_iconst (pc := 358) (v := 2) dL_law_358 (by decide) ?_
  refine ly_cV (pc := 359) (As := [.int 0, .int 1, .int 2]) (rest := []) (c_X10_associates hw _ _ e0) ok_X10_associates rfl ⟨Nat.le_of_ble_eq_true rfl, Nat.le_of_ble_eq_true rfl⟩ (all3 gj_614 gj_615 gj_616) h0k rfl rfl (Nat.le_of_ble_eq_true rfl) hkR hsR dL_law_359 ?_
  show LW w mu_L_law _ (own w) _ (wd w τ0 ++ ws) _ _ [(4, x4), (3, .int (i32 j)), (0, .ref (wt w 3)), (1, .ref (adr w 0)), (2, .int (i32 (gn G)))] [.int 1] 362
  refine ly_iconst (pc := 362) (v := 1) dL_law_362 (by decide) ?_
  refine ly_icmp_eq (pc := 363) dL_law_363 (tgt := 368) rfl (fun _ => ?_) (fun h => absurd rfl h)
  have a0 := hK.self 0
  have a1 := hK.self 1
  have a2 := hK.self 2
  have s0 := hK.sb 0
  have s1 := hK.sb 1
  have s2 := hK.sb 2
  have z0 := hK.z 0
  have z1 := hK.z 1
  generalize R 0 = A0 at *
  generalize R 1 = A1 at *
  generalize R 2 = A2 at *
  rcases k_makes k0 hc (r := 3) (p := 0) (q := 1) (by omega) (by omega) (by omega) a0 a1 with ⟨-, τ1, e1, k1⟩ | ⟨-, τ1, e1, k1⟩
  · refine ly_aload_n (pc := 368) 3 rfl dL_law_368 rfl ?_
    refine ly_iconst (pc := 369) (v := 3) dL_law_369 (by decide) ?_
    refine ly_iconst (pc := 370) (v := 0) dL_law_370 (by decide) ?_
    refine ly_iconst (pc := 371) (v := 1) dL_law_371 (by decide) ?_
    refine ly_cS (pc := 372) (As := [.ref (adr w 0), .int 3, .int 0, .int 1]) (rest := []) (c_L_makes hw _ _ e1) ok_L_makes ⟨Nat.le_of_ble_eq_true rfl, Nat.le_of_ble_eq_true rfl⟩ (all2 gj_771 gj_772) rfl rfl (Nat.le_of_ble_eq_true rfl) hkR hsR dL_law_372 ?_
    show LW w mu_L_law _ (own w) _ (wd w τ1 ++ ws) _ _ [(4, x4), (3, .int (i32 j)), (0, .ref (wt w 3)), (1, .ref (adr w 0)), (2, .int (i32 (gn G)))] [.int 1] 375
    refine ly_istore (pc := 375) (lv' := [(4, .int 1), (3, .int (i32 j)), (0, .ref (wt w 3)), (1, .ref (adr w 0)), (2, .int (i32 (gn G)))]) dL_law_375 (ltb rfl) rfl ?_
    refine ly_iload (pc := 377) 0 rfl dL_law_377 ?_
    refine ly_iconst (pc := 379) (v := 1) dL_law_379 (by decide) ?_
    refine ly_icmp_ne (pc := 380) dL_law_380 (tgt := 392) rfl (fun h => absurd rfl h) (fun _ => ?_)
    have n3 : rp G (upR G R 3 (mul G A0 A1)) 3 (mul G A0 A1) := rp.new (z0.muls hG) ((s0.mul hG s1).up (by omega))
    have b0 : rp G (upR G R 3 (mul G A0 A1)) 0 A0 := a0.keep (by omega)
    have b1 : rp G (upR G R 3 (mul G A0 A1)) 1 A1 := a1.keep (by omega)
    have b2 : rp G (upR G R 3 (mul G A0 A1)) 2 A2 := a2.keep (by omega)
    rcases k_makes k1 hc (r := 3) (p := 3) (q := 2) (by omega) (by omega) (by omega) n3 b2 with ⟨-, τ2, e2, k2⟩ | ⟨-, τ2, e2, k2⟩
    · refine ly_aload_n (pc := 383) 3 rfl dL_law_383 rfl ?_
      refine ly_iconst (pc := 384) (v := 3) dL_law_384 (by decide) ?_
      refine ly_iconst (pc := 385) (v := 3) dL_law_385 (by decide) ?_
      refine ly_iconst (pc := 386) (v := 2) dL_law_386 (by decide) ?_
      refine ly_cS (pc := 387) (As := [.ref (adr w 0), .int 3, .int 3, .int 2]) (rest := []) (c_L_makes hw _ _ e2) ok_L_makes ⟨Nat.le_of_ble_eq_true rfl, Nat.le_of_ble_eq_true rfl⟩ (all2 gj_771 gj_772) rfl rfl (Nat.le_of_ble_eq_true rfl) hkR hsR dL_law_387 ?_
      show LW w mu_L_law _ (own w) _ (wd w τ2 ++ ws) _ _ [(4, .int 1), (3, .int (i32 j)), (0, .ref (wt w 3)), (1, .ref (adr w 0)), (2, .int (i32 (gn G)))] [.int 1] 390
      refine ly_istore (pc := 390) (lv' := [(4, .int 1), (3, .int (i32 j)), (0, .ref (wt w 3)), (1, .ref (adr w 0)), (2, .int (i32 (gn G)))]) dL_law_390 (ltb rfl) rfl ?_
      exact l2_392 hw h0k hl k2 hc s0 s1 s2 z0 z1 (b0.keep (by omega)) (b1.keep (by omega)) (b2.keep (by omega)) (Or.inl rfl) (fun _ => rp.new ((z0.muls hG).muls hG) (((s0.mul hG s1).mul hG s2).up (by omega))) kk hk hs
    · refine ly_aload_n (pc := 383) 3 rfl dL_law_383 rfl ?_
      refine ly_iconst (pc := 384) (v := 3) dL_law_384 (by decide) ?_
      refine ly_iconst (pc := 385) (v := 3) dL_law_385 (by decide) ?_
      refine ly_iconst (pc := 386) (v := 2) dL_law_386 (by decide) ?_
      refine ly_cS (pc := 387) (As := [.ref (adr w 0), .int 3, .int 3, .int 2]) (rest := []) (c_L_makes hw _ _ e2) ok_L_makes ⟨Nat.le_of_ble_eq_true rfl, Nat.le_of_ble_eq_true rfl⟩ (all2 gj_771 gj_772) rfl rfl (Nat.le_of_ble_eq_true rfl) hkR hsR dL_law_387 ?_
      show LW w mu_L_law _ (own w) _ (wd w τ2 ++ ws) _ _ [(4, .int 1), (3, .int (i32 j)), (0, .ref (wt w 3)), (1, .ref (adr w 0)), (2, .int (i32 (gn G)))] [.int 0] 390
      refine ly_istore (pc := 390) (lv' := [(4, .int 0), (3, .int (i32 j)), (0, .ref (wt w 3)), (1, .ref (adr w 0)), (2, .int (i32 (gn G)))]) dL_law_390 (ltb rfl) rfl ?_
      exact l2_392 hw h0k hl k2 hc s0 s1 s2 z0 z1 b0 b1 b2 (Or.inr rfl) (fun h2 => absurd h2 (by decide)) kk hk hs
  · refine ly_aload_n (pc := 368) 3 rfl dL_law_368 rfl ?_
    refine ly_iconst (pc := 369) (v := 3) dL_law_369 (by decide) ?_
    refine ly_iconst (pc := 370) (v := 0) dL_law_370 (by decide) ?_
    refine ly_iconst (pc := 371) (v := 1) dL_law_371 (by decide) ?_
    refine ly_cS (pc := 372) (As := [.ref (adr w 0), .int 3, .int 0, .int 1]) (rest := []) (c_L_makes hw _ _ e1) ok_L_makes ⟨Nat.le_of_ble_eq_true rfl, Nat.le_of_ble_eq_true rfl⟩ (all2 gj_771 gj_772) rfl rfl (Nat.le_of_ble_eq_true rfl) hkR hsR dL_law_372 ?_
    show LW w mu_L_law _ (own w) _ (wd w τ1 ++ ws) _ _ [(4, x4), (3, .int (i32 j)), (0, .ref (wt w 3)), (1, .ref (adr w 0)), (2, .int (i32 (gn G)))] [.int 0] 375
    refine ly_istore (pc := 375) (lv' := [(4, .int 0), (3, .int (i32 j)), (0, .ref (wt w 3)), (1, .ref (adr w 0)), (2, .int (i32 (gn G)))]) dL_law_375 (ltb rfl) rfl ?_
    refine ly_iload (pc := 377) 0 rfl dL_law_377 ?_
    refine ly_iconst (pc := 379) (v := 1) dL_law_379 (by decide) ?_
    refine ly_icmp_ne (pc := 380) dL_law_380 (tgt := 392) rfl (fun _ => ?_) (fun h => absurd h (by decide))
    exact l2_392 hw h0k hl k1 hc s0 s1 s2 z0 z1 a0 a1 a2 (Or.inr rfl) (fun h2 => absurd h2 (by decide)) kk hk hs
theorem l2_sets (hw : WOK w) (h0k : isk w 0 10) (hl : wt w 4 ≤ 260) (hc : Cons G) (hj : j < 6) (kk : ∀ σ' R' T', KJ G R' [] T' σ' → LW w mu_L_law room_1 (own w) (QW w) (wd w σ' ++ ws) k sl [(4, .int (i32 3)), (3, .int (i32 j)), (0, .ref (wt w 3)), (1, .ref (adr w 0)), (2, .int (i32 (gn G)))] [] 355) (hk : k ≤ 500000) (hs : sl ≤ 6000000) : ∀ d r, r + d = 3 → ∀ σ R T, KJ G R [] T σ → LW w mu_L_law room_1 (own w) (QW w) (wd w σ ++ ws) k sl [(4, .int (i32 r)), (3, .int (i32 j)), (0, .ref (wt w 3)), (1, .ref (adr w 0)), (2, .int (i32 (gn G)))] [] 321 := by
  intro d
  induction d with
  | zero =>
    intro r hr σ R T hK
    have h3 : r = 3 := by omega
    subst h3
    refine ly_iload (pc := 321) 0 rfl dL_law_321 ?_
    refine ly_iconst (pc := 323) (v := 3) dL_law_323 (by decide) ?_
    refine ly_icmp_ge (pc := 324) dL_law_324 (tgt := 355) rfl (fun _ => ?_) (fun h => absurd (by decide : (3 : Int32) ≤ i32 3) h)
    exact kk _ _ _ hK
  | succ d ih =>
    intro r hr σ R T hK
    have hkR : k ≤ room_1.cells := Nat.le_trans hk (Nat.le_of_ble_eq_true rfl)
    have hsR : sl ≤ room_1.slots := Nat.le_trans hs (Nat.le_of_ble_eq_true rfl)
    refine ly_iload (pc := 321) 0 rfl dL_law_321 ?_
    refine ly_iconst (pc := 323) (v := 3) dL_law_323 (by decide) ?_
    refine ly_icmp_ge (pc := 324) dL_law_324 (tgt := 355) rfl (fun h => absurd h (i_nle (a := 3) (by omega) (by omega))) (fun _ => ?_)
    obtain ⟨R', T', τ, e, k1⟩ := k_sets (sl := wt w 4) (sx := wS w) hl hK hc (f := 90 + 18 * j + 6 * r) (r := r) (by omega) (by omega)
    refine ly_aload_n (pc := 327) 3 rfl dL_law_327 rfl ?_
    refine ly_aload_n (pc := 328) 2 rfl dL_law_328 rfl ?_
    refine ly_bipush (pc := 329) (v := 90) dL_law_329 (by decide) ?_
    refine ly_bipush (pc := 331) (v := 18) dL_law_331 (by decide) ?_
    refine ly_iload_n (pc := 333) 1 rfl dL_law_333 rfl ?_
    refine ly_imul (pc := 334) dL_law_334 ?_
    refine ly_iadd (pc := 335) dL_law_335 ?_
    refine ly_bipush (pc := 336) (v := 6) dL_law_336 (by decide) ?_
    refine ly_iload (pc := 338) 0 rfl dL_law_338 ?_
    refine ly_imul (pc := 340) dL_law_340 ?_
    refine ly_iadd (pc := 341) dL_law_341 ?_
    rw [show (90 : Int32) + 18 * i32 j + 6 * i32 r = i32 (90 + 18 * j + 6 * r) from by rw [show (90 : Int32) = i32 90 from rfl, show (18 : Int32) = i32 18 from rfl, show (6 : Int32) = i32 6 from rfl, i32_mul, i32_add, i32_mul, i32_add]]
    refine ly_iload (pc := 342) 0 rfl dL_law_342 ?_
    refine ly_iload_n (pc := 344) 4 rfl dL_law_344 rfl ?_
    refine ly_iconst (pc := 345) (v := 3) dL_law_345 (by decide) ?_
    refine ly_cS (pc := 346) (As := [.ref (adr w 0), .ref (wt w 3), .int (i32 (90 + 18 * j + 6 * r)), .int (i32 r), .int (i32 (gn G)), .int 3]) (rest := []) (c_L_sets hw rfl rfl _ e) ok_L_sets ⟨Nat.le_of_ble_eq_true rfl, Nat.le_of_ble_eq_true rfl⟩ (all2 gj_699 gj_700) rfl rfl (Nat.le_of_ble_eq_true rfl) hkR hsR dL_law_346 ?_
    show LW w mu_L_law _ (own w) _ (wd w τ ++ ws) _ _ [(4, .int (i32 r)), (3, .int (i32 j)), (0, .ref (wt w 3)), (1, .ref (adr w 0)), (2, .int (i32 (gn G)))] [] 349
    refine ly_iinc (pc := 349) (v := (i32 (r + 1))) (lv' := [(4, .int (i32 (r + 1))), (3, .int (i32 j)), (0, .ref (wt w 3)), (1, .ref (adr w 0)), (2, .int (i32 (gn G)))]) 0 rfl dL_law_349 (by rw [show Int32.ofInt 1 = i32 1 from rfl, i32_add]) (ltb rfl) rfl ?_
    exact ly_goto (pc := 352) dL_law_352 (tgt := 321) rfl (ih (r + 1) (by omega) _ _ _ k1)
theorem l2_loop (hw : WOK w) (h0k : isk w 0 10) (hl : wt w 4 ≤ 260) (hc : Cons G) (hk : k ≤ 500000) (hs : sl ≤ 6000000) : ∀ d j, j + d = 6 → ∀ σ R T, KJ G R [] T σ → LW w mu_L_law room_1 (own w) (QW w) (wd w σ ++ ws) k sl [(3, .int (i32 j)), (0, .ref (wt w 3)), (1, .ref (adr w 0)), (2, .int (i32 (gn G)))] [] 312 := by
  intro d
  induction d with
  | zero =>
    intro j hj σ R T hK
    have h6 : j = 6 := by omega
    subst h6
    refine ly_iload_n (pc := 312) 0 rfl dL_law_312 rfl ?_
    refine ly_bipush (pc := 313) (v := 6) dL_law_313 (by decide) ?_
    refine ly_icmp_ge (pc := 315) dL_law_315 (tgt := 575) rfl (fun _ => ?_) (fun h => absurd (by decide : (6 : Int32) ≤ i32 6) h)
    exact lw_true (Nat.le_trans hk (Nat.le_of_ble_eq_true rfl)) (Nat.le_trans hs (Nat.le_of_ble_eq_true rfl))
  | succ d ih =>
    intro j hj σ R T hK
    refine ly_iload_n (pc := 312) 0 rfl dL_law_312 rfl ?_
    refine ly_bipush (pc := 313) (v := 6) dL_law_313 (by decide) ?_
    refine ly_icmp_ge (pc := 315) dL_law_315 (tgt := 575) rfl (fun h => absurd h (i_nle (a := 6) (by omega) (by omega))) (fun _ => ?_)
    refine ly_iconst (pc := 318) (v := 0) dL_law_318 (by decide) ?_
    refine ly_istore (pc := 319) (lv' := [(4, .int 0), (3, .int (i32 j)), (0, .ref (wt w 3)), (1, .ref (adr w 0)), (2, .int (i32 (gn G)))]) dL_law_319 (ltb rfl) rfl ?_
    exact l2_sets hw h0k hl hc (by omega) (fun σ1 R1 T1 h1 => l2_355 hw h0k hl h1 hc (fun x y σ2 R2 h2 => l2_450 hw h0k hl h2 hc (fun σ3 R3 h3 => ih (j + 1) (by omega) _ _ _ h3) hk hs) hk hs) hk hs 3 0 rfl _ _ _ hK
theorem l1_next (kk : LW w mu_L_law room_1 (own w) (QW w) (wd w σ ++ ws) k sl [(3, .int (i32 (j + 1))), (0, .ref (wt w 3)), (1, .ref (adr w 0)), (2, .int (i32 (gn G)))] [] 64) : LW w mu_L_law room_1 (own w) (QW w) (wd w σ ++ ws) k sl [(3, .int (i32 j)), (0, .ref (wt w 3)), (1, .ref (adr w 0)), (2, .int (i32 (gn G)))] [] 304 := by
  refine ly_iinc (pc := 304) (v := (i32 (j + 1))) (lv' := [(3, .int (i32 (j + 1))), (0, .ref (wt w 3)), (1, .ref (adr w 0)), (2, .int (i32 (gn G)))]) 0 rfl dL_law_304 (by rw [show Int32.ofInt 1 = i32 1 from rfl, i32_add]) (ltb rfl) rfl ?_
  refine ly_goto (pc := 307) dL_law_307 (tgt := 64) rfl ?_
  refine ly_lv [0, 1, 2, 3] (lv' := [(3, .int (i32 (j + 1))), (0, .ref (wt w 3)), (1, .ref (adr w 0)), (2, .int (i32 (gn G)))]) rfl ?_
  exact kk
theorem l1_287 {x o : Int32} {x5 x4 x8 : Value} (h0 : (x = 1 ∧ o = 0) ∨ (x = 0 ∧ o = 1)) (kk : LW w mu_L_law room_1 (own w) (QW w) (wd w σ ++ ws) k sl [(3, .int (i32 j)), (0, .ref (wt w 3)), (1, .ref (adr w 0)), (2, .int (i32 (gn G)))] [] 304) : LW w mu_L_law room_1 (own w) (QW w) (wd w σ ++ ws) k sl [(8, x8), (7, .int o), (6, .int x), (5, x5), (4, x4), (3, .int (i32 j)), (0, .ref (wt w 3)), (1, .ref (adr w 0)), (2, .int (i32 (gn G)))] [] 287 := by
  refine ly_iload (pc := 287) 2 rfl dL_law_287 ?_
  refine ly_iload (pc := 289) 1 rfl dL_law_289 ?_
  refine ly_if_eq (pc := 291) dL_law_291 (tgt := 298) rfl (fun h => ?_) (fun h => ?_)
  · have h1 := h
    refine ly_iconst (pc := 298) (v := 1) dL_law_298 (by decide) ?_
    refine ly_icmp_eq (pc := 299) dL_law_299 (tgt := 304) rfl (fun _ => ?_) (fun h => absurd (by rcases h0 with ⟨a, b⟩ | ⟨a, b⟩ <;> first | exact a | (rw [b] at h1; exact absurd h1 (by decide))) h)
    refine ly_lv [5, 6, 7, 8] (lv' := [(3, .int (i32 j)), (0, .ref (wt w 3)), (1, .ref (adr w 0)), (2, .int (i32 (gn G)))]) rfl ?_
    exact kk
  · have h1 := h
    refine ly_iconst (pc := 294) (v := 0) dL_law_294 (by decide) ?_
    refine ly_goto (pc := 295) dL_law_295 (tgt := 299) rfl ?_
    refine ly_icmp_eq (pc := 299) dL_law_299 (tgt := 304) rfl (fun _ => ?_) (fun h => absurd (by rcases h0 with ⟨a, b⟩ | ⟨a, b⟩ <;> first | exact absurd b h1 | exact a) h)
    refine ly_lv [5, 6, 7, 8] (lv' := [(3, .int (i32 j)), (0, .ref (wt w 3)), (1, .ref (adr w 0)), (2, .int (i32 (gn G)))]) rfl ?_
    exact kk
theorem l1_cmp {W : List Nat} {x : Int32} {x5 x4 : Value} (hw : WOK w) (h0k : isk w 0 10) (hl : wt w 4 ≤ 260) (hK : KJ G R [] (gn G, fun i => i32 (W.count i)) σ) (hW : W.length < 12076) (hx : x = 1 → ∀ k, k < gn G → o3 (R 2 k) = i32 (W.count k)) (kk : ∀ o : Int32, ((o = 1 ∧ ∃ k, k < gn G ∧ 999 < W.count k) ∨ (o = 0 ∧ ∀ k, k < gn G → W.count k ≤ 999)) → LW w mu_L_law room_1 (own w) (QW w) (wd w σ ++ ws) k sl [(8, .int (i32 (gn G + 1))), (7, .int o), (6, .int x), (5, x5), (4, x4), (3, .int (i32 j)), (0, .ref (wt w 3)), (1, .ref (adr w 0)), (2, .int (i32 (gn G)))] [] 287) (hk : k ≤ 500000) (hs : sl ≤ 6000000) : ∀ d i, i + d = gn G → ∀ o : Int32, ((o = 1 ∧ ∃ k, k < i ∧ 999 < W.count k) ∨ (o = 0 ∧ ∀ k, k < i → W.count k ≤ 999)) → LW w mu_L_law room_1 (own w) (QW w) (wd w σ ++ ws) k sl [(8, .int (i32 (i + 1))), (7, .int o), (6, .int x), (5, x5), (4, x4), (3, .int (i32 j)), (0, .ref (wt w 3)), (1, .ref (adr w 0)), (2, .int (i32 (gn G)))] [] 233 := by
  have hn : gn G ≤ 6 := hK.g.2.1
  intro d
  induction d with
  | zero =>
    intro i hi o ho
    have hi2 : i = gn G := by omega
    subst hi2
    refine ly_iload (pc := 233) 0 rfl dL_law_233 ?_
    refine ly_iload_n (pc := 235) 8 rfl dL_law_235 rfl ?_
    refine ly_icmp_gt (pc := 236) dL_law_236 (tgt := 287) rfl (fun _ => ?_) (fun h => absurd (i_lt (by omega) (by omega)) h)
    exact kk o ho
  | succ d ih =>
    intro i hi o ho
    have hkR : k ≤ room_1.cells := Nat.le_trans hk (Nat.le_of_ble_eq_true rfl)
    have hsR : sl ≤ room_1.slots := Nat.le_trans hs (Nat.le_of_ble_eq_true rfl)
    have ec : f_X10_collected σ (i32 (i + 1)) = some (i32 (W.count i)) := k_collected hK (by omega)
    have ee := k_exp hK (r := 2) (k := i) (by omega) (by omega)
    have hcw := cnt_lt hW i
    refine ly_iload (pc := 233) 0 rfl dL_law_233 ?_
    refine ly_iload_n (pc := 235) 8 rfl dL_law_235 rfl ?_
    refine ly_icmp_gt (pc := 236) dL_law_236 (tgt := 287) rfl (fun h => absurd h (i_nlt (by omega) (by omega))) (fun _ => ?_)
    refine ly_aload_n (pc := 239) 7 rfl dL_law_239 rfl ?_
    refine ly_iload (pc := 240) 0 rfl dL_law_240 ?_
    refine ly_cV (pc := 242) (As := [.int (i32 (i + 1))]) (rest := []) (c_X10_collected hw _ ec) ok_X10_collected rfl ⟨Nat.le_of_ble_eq_true rfl, Nat.le_of_ble_eq_true rfl⟩ (all3 gj_606 gj_607 gj_608) h0k rfl rfl (Nat.le_of_ble_eq_true rfl) hkR hsR dL_law_242 ?_
    show LW w mu_L_law _ (own w) _ (wd w σ ++ ws) _ _ [(8, .int (i32 (i + 1))), (7, .int o), (6, .int x), (5, x5), (4, x4), (3, .int (i32 j)), (0, .ref (wt w 3)), (1, .ref (adr w 0)), (2, .int (i32 (gn G)))] [.int (i32 (W.count i))] 245
    refine ly_sipush (pc := 245) (v := 999) dL_law_245 (by decide) ?_
    refine ly_icmp_le (pc := 248) dL_law_248 (tgt := 257) rfl (fun h => ?_) (fun h => ?_)
    · have hcn : W.count i ≤ 999 := by
        have h2 : i32 (W.count i) ≤ i32 999 := h
        rw [i32_le (by omega) (by omega)] at h2; exact h2
      have ho2 : ((o = 1 ∧ ∃ k, k < i + 1 ∧ 999 < W.count k) ∨ (o = 0 ∧ ∀ k, k < i + 1 → W.count k ≤ 999)) := by
        rcases ho with ⟨a, k0, b, c⟩ | ⟨a, b⟩
        · exact Or.inl ⟨a, k0, by omega, c⟩
        · exact Or.inr ⟨a, fun k1 hk1 => by
            by_cases hki : k1 = i
            · rw [hki]; exact hcn
            · exact b k1 (by omega)⟩
      refine ly_iload (pc := 257) 2 rfl dL_law_257 ?_
      refine ly_iconst (pc := 259) (v := 1) dL_law_259 (by decide) ?_
      refine ly_icmp_ne (pc := 260) dL_law_260 (tgt := 281) rfl (fun h => ?_) (fun h => ?_)
      · refine ly_iinc (pc := 281) (v := (i32 (i + 1 + 1))) (lv' := [(8, .int (i32 (i + 1 + 1))), (7, .int o), (6, .int x), (5, x5), (4, x4), (3, .int (i32 j)), (0, .ref (wt w 3)), (1, .ref (adr w 0)), (2, .int (i32 (gn G)))]) 0 rfl dL_law_281 (by rw [show Int32.ofInt 1 = i32 1 from rfl, i32_add]) (ltb rfl) rfl ?_
        refine ly_goto (pc := 284) dL_law_284 (tgt := 233) rfl ?_
        exact ih (i + 1) (by omega) o ho2
      · have hx1 : x = 1 := h
        refine ly_aload_n (pc := 263) 7 rfl dL_law_263 rfl ?_
        refine ly_iload (pc := 264) 0 rfl dL_law_264 ?_
        refine ly_cV (pc := 266) (As := [.int (i32 (i + 1))]) (rest := []) (c_X10_collected hw _ ec) ok_X10_collected rfl ⟨Nat.le_of_ble_eq_true rfl, Nat.le_of_ble_eq_true rfl⟩ (all3 gj_606 gj_607 gj_608) h0k rfl rfl (Nat.le_of_ble_eq_true rfl) hkR hsR dL_law_266 ?_
        show LW w mu_L_law _ (own w) _ (wd w σ ++ ws) _ _ [(8, .int (i32 (i + 1))), (7, .int o), (6, .int x), (5, x5), (4, x4), (3, .int (i32 j)), (0, .ref (wt w 3)), (1, .ref (adr w 0)), (2, .int (i32 (gn G)))] [.int (i32 (W.count i))] 269
        refine ly_aload_n (pc := 269) 7 rfl dL_law_269 rfl ?_
        refine ly_iconst (pc := 270) (v := 2) dL_law_270 (by decide) ?_
        refine ly_iload (pc := 271) 0 rfl dL_law_271 ?_
        refine ly_cV (pc := 273) (As := [.int 2, .int (i32 (i + 1))]) (rest := [.int (i32 (W.count i))]) (c_X10_exponent hw _ ee) ok_X10_exponent rfl ⟨Nat.le_of_ble_eq_true rfl, Nat.le_of_ble_eq_true rfl⟩ (all3 gj_610 gj_611 gj_612) h0k rfl rfl (Nat.le_of_ble_eq_true rfl) hkR hsR dL_law_273 ?_
        show LW w mu_L_law _ (own w) _ (wd w σ ++ ws) _ _ [(8, .int (i32 (i + 1))), (7, .int o), (6, .int x), (5, x5), (4, x4), (3, .int (i32 j)), (0, .ref (wt w 3)), (1, .ref (adr w 0)), (2, .int (i32 (gn G)))] [.int (o3 (R 2 i)), .int (i32 (W.count i))] 276
        refine ly_icmp_eq (pc := 276) dL_law_276 (tgt := 281) rfl (fun _ => ?_) (fun h => absurd (hx hx1 i (by omega)).symm h)
        refine ly_iinc (pc := 281) (v := (i32 (i + 1 + 1))) (lv' := [(8, .int (i32 (i + 1 + 1))), (7, .int o), (6, .int x), (5, x5), (4, x4), (3, .int (i32 j)), (0, .ref (wt w 3)), (1, .ref (adr w 0)), (2, .int (i32 (gn G)))]) 0 rfl dL_law_281 (by rw [show Int32.ofInt 1 = i32 1 from rfl, i32_add]) (ltb rfl) rfl ?_
        refine ly_goto (pc := 284) dL_law_284 (tgt := 233) rfl ?_
        exact ih (i + 1) (by omega) o ho2
    · have hcn : 999 < W.count i := Nat.lt_of_not_le (fun z => h (i_le (b := 999) z (by omega)))
      refine ly_iconst (pc := 251) (v := 1) dL_law_251 (by decide) ?_
      refine ly_istore (pc := 252) (lv' := [(7, .int 1), (8, .int (i32 (i + 1))), (6, .int x), (5, x5), (4, x4), (3, .int (i32 j)), (0, .ref (wt w 3)), (1, .ref (adr w 0)), (2, .int (i32 (gn G)))]) dL_law_252 (ltb rfl) rfl ?_
      refine ly_goto (pc := 254) dL_law_254 (tgt := 281) rfl ?_
      refine ly_iinc (pc := 281) (v := (i32 (i + 1 + 1))) (lv' := [(8, .int (i32 (i + 1 + 1))), (7, .int 1), (6, .int x), (5, x5), (4, x4), (3, .int (i32 j)), (0, .ref (wt w 3)), (1, .ref (adr w 0)), (2, .int (i32 (gn G)))]) 1 rfl dL_law_281 (by rw [show Int32.ofInt 1 = i32 1 from rfl, i32_add]) (ltb rfl) rfl ?_
      refine ly_goto (pc := 284) dL_law_284 (tgt := 233) rfl ?_
      exact ih (i + 1) (by omega) 1 (Or.inl ⟨rfl, i, by omega, hcn⟩)
theorem l1_211 {W : List Nat} {e : Nat} {x4 : Value} (hw : WOK w) (h0k : isk w 0 10) (hl : wt w 4 ≤ 260) (hK : KJ G R [] (gn G, fun i => i32 (W.count i)) σ) (hc : Cons G) (hW : W.length < 12076) (he : e ≤ 1000) (hP : ∀ k, k < gn G → mul G (R 0) (R 1) k = (W.count k : Int)) (kk : ∀ σ' R', KJ G R' [] (gn G, fun i => i32 (W.count i)) σ' → LW w mu_L_law room_1 (own w) (QW w) (wd w σ' ++ ws) k sl [(3, .int (i32 j)), (0, .ref (wt w 3)), (1, .ref (adr w 0)), (2, .int (i32 (gn G)))] [] 304) (hk : k ≤ 500000) (hs : sl ≤ 6000000) : LW w mu_L_law room_1 (own w) (QW w) (wd w σ ++ ws) k sl [(5, .int (i32 e)), (4, x4), (3, .int (i32 j)), (0, .ref (wt w 3)), (1, .ref (adr w 0)), (2, .int (i32 (gn G)))] [] 211 := by
  have hkR : k ≤ room_1.cells := Nat.le_trans hk (Nat.le_of_ble_eq_true rfl)
  have hsR : sl ≤ room_1.slots := Nat.le_trans hs (Nat.le_of_ble_eq_true rfl)
  have hG := hK.g
  refine ly_iload (pc := 211) 0 rfl dL_law_211 ?_
  refine ly_if_ge (pc := 213) dL_law_213 (tgt := 218) rfl (fun _ => ?_) (fun h => absurd (i_le (a := 0) (by omega) (by omega)) h)
  have hel := el_cnt (G := G) (A := mul G (R 0) (R 1)) hW hP
  rcases k_makes hK hc (r := 2) (p := 0) (q := 1) (by omega) (by omega) (by omega) (hK.self 0) (hK.self 1) with ⟨h1, τ1, e1, k1⟩ | ⟨h1, τ1, e1, k1⟩
  · have n2 : rp G (upR G R 2 (mul G (R 0) (R 1))) 2 (mul G (R 0) (R 1)) := rp.new ((hK.z 0).muls hG) (((hK.sb 0).mul hG (hK.sb 1)).up (by omega))
    refine ly_aload_n (pc := 218) 4 rfl dL_law_218 rfl ?_
    refine ly_iconst (pc := 219) (v := 2) dL_law_219 (by decide) ?_
    refine ly_iconst (pc := 220) (v := 0) dL_law_220 (by decide) ?_
    refine ly_iconst (pc := 221) (v := 1) dL_law_221 (by decide) ?_
    refine ly_cS (pc := 222) (As := [.ref (adr w 0), .int 2, .int 0, .int 1]) (rest := []) (c_L_makes hw _ _ e1) ok_L_makes ⟨Nat.le_of_ble_eq_true rfl, Nat.le_of_ble_eq_true rfl⟩ (all2 gj_771 gj_772) rfl rfl (Nat.le_of_ble_eq_true rfl) hkR hsR dL_law_222 ?_
    show LW w mu_L_law _ (own w) _ (wd w τ1 ++ ws) _ _ [(5, .int (i32 e)), (4, x4), (3, .int (i32 j)), (0, .ref (wt w 3)), (1, .ref (adr w 0)), (2, .int (i32 (gn G)))] [.int 1] 225
    refine ly_istore (pc := 225) (lv' := [(6, .int 1), (5, .int (i32 e)), (4, x4), (3, .int (i32 j)), (0, .ref (wt w 3)), (1, .ref (adr w 0)), (2, .int (i32 (gn G)))]) dL_law_225 (ltb rfl) rfl ?_
    refine ly_iconst (pc := 227) (v := 0) dL_law_227 (by decide) ?_
    refine ly_istore (pc := 228) (lv' := [(7, .int 0), (6, .int 1), (5, .int (i32 e)), (4, x4), (3, .int (i32 j)), (0, .ref (wt w 3)), (1, .ref (adr w 0)), (2, .int (i32 (gn G)))]) dL_law_228 (ltb rfl) rfl ?_
    refine ly_iconst (pc := 230) (v := 1) dL_law_230 (by decide) ?_
    refine ly_istore (pc := 231) (lv' := [(8, .int 1), (7, .int 0), (6, .int 1), (5, .int (i32 e)), (4, x4), (3, .int (i32 j)), (0, .ref (wt w 3)), (1, .ref (adr w 0)), (2, .int (i32 (gn G)))]) dL_law_231 (ltb rfl) rfl ?_
    exact l1_cmp hw h0k hl k1 hW (fun _ k2 hk2 => cnt_row hW k1 n2 hP hk2) (fun o ho => l1_287 (by rcases ho with ⟨a, k0, b, c⟩ | ⟨a, b⟩; exact absurd (hel.mp h1 k0 b) (by omega); exact Or.inl ⟨rfl, a⟩) (kk _ _ k1)) hk hs (gn G) 0 (Nat.zero_add _) 0 (Or.inr ⟨rfl, fun k2 hk2 => absurd hk2 (Nat.not_lt_zero _)⟩)
  · refine ly_aload_n (pc := 218) 4 rfl dL_law_218 rfl ?_
    refine ly_iconst (pc := 219) (v := 2) dL_law_219 (by decide) ?_
    refine ly_iconst (pc := 220) (v := 0) dL_law_220 (by decide) ?_
    refine ly_iconst (pc := 221) (v := 1) dL_law_221 (by decide) ?_
    refine ly_cS (pc := 222) (As := [.ref (adr w 0), .int 2, .int 0, .int 1]) (rest := []) (c_L_makes hw _ _ e1) ok_L_makes ⟨Nat.le_of_ble_eq_true rfl, Nat.le_of_ble_eq_true rfl⟩ (all2 gj_771 gj_772) rfl rfl (Nat.le_of_ble_eq_true rfl) hkR hsR dL_law_222 ?_
    show LW w mu_L_law _ (own w) _ (wd w τ1 ++ ws) _ _ [(5, .int (i32 e)), (4, x4), (3, .int (i32 j)), (0, .ref (wt w 3)), (1, .ref (adr w 0)), (2, .int (i32 (gn G)))] [.int 0] 225
    refine ly_istore (pc := 225) (lv' := [(6, .int 0), (5, .int (i32 e)), (4, x4), (3, .int (i32 j)), (0, .ref (wt w 3)), (1, .ref (adr w 0)), (2, .int (i32 (gn G)))]) dL_law_225 (ltb rfl) rfl ?_
    refine ly_iconst (pc := 227) (v := 0) dL_law_227 (by decide) ?_
    refine ly_istore (pc := 228) (lv' := [(7, .int 0), (6, .int 0), (5, .int (i32 e)), (4, x4), (3, .int (i32 j)), (0, .ref (wt w 3)), (1, .ref (adr w 0)), (2, .int (i32 (gn G)))]) dL_law_228 (ltb rfl) rfl ?_
    refine ly_iconst (pc := 230) (v := 1) dL_law_230 (by decide) ?_
    refine ly_istore (pc := 231) (lv' := [(8, .int 1), (7, .int 0), (6, .int 0), (5, .int (i32 e)), (4, x4), (3, .int (i32 j)), (0, .ref (wt w 3)), (1, .ref (adr w 0)), (2, .int (i32 (gn G)))]) dL_law_231 (ltb rfl) rfl ?_
    exact l1_cmp hw h0k hl k1 hW (fun h2 => absurd h2 (by decide)) (fun o ho => l1_287 (by rcases ho with ⟨a, k0, b, c⟩ | ⟨a, b⟩; exact Or.inr ⟨rfl, a⟩; exact absurd (hel.mpr b) (by rw [h1]; decide)) (kk _ _ k1)) hk hs (gn G) 0 (Nat.zero_add _) 0 (Or.inr ⟨rfl, fun k2 hk2 => absurd hk2 (Nat.not_lt_zero _)⟩)
abbrev sbW (w : Wd) (a v n : Nat) (f : Nat → Int32) : va_W := [(a, sbC (.ref v) (.int 0) (i32 n)), (v, byC w 16 f)]
variable {a v : Nat}
theorem l1_186 {b0 b1 : Nat → Nat} {f : Nat → Int32} (hw : WOK w) (h0k : isk w 0 10) (hl : wt w 4 ≤ 260) (hK : KJ G R [] T σ) (hc : Cons G) (hB : WB (ltr (wordU b0 (gn G) ++ wordU b1 (gn G))) f) (h16 : (ltr (wordU b0 (gn G) ++ wordU b1 (gn G))).length ≤ 16) (h0 : ∀ k, k < gn G → R 0 k = (b0 k : Int)) (h1 : ∀ k, k < gn G → R 1 k = (b1 k : Int)) (kk : ∀ σ' ws' R' T' k' sl', KJ G R' [] T' σ' → k' ≤ k + 3 → sl' ≤ sl + 25 → LW w mu_L_law room_1 (own w) (QW w) (wd w σ' ++ ws') k' sl' [(3, .int (i32 j)), (0, .ref (wt w 3)), (1, .ref (adr w 0)), (2, .int (i32 (gn G)))] [] 304) (hk : k ≤ 400000) (hs : sl ≤ 5000000) : LW w mu_L_law room_1 (own w) (QW w) (wd w σ ++ sbW w a v (ltr (wordU b0 (gn G) ++ wordU b1 (gn G))).length f) k sl [(4, .ref a), (3, .int (i32 j)), (0, .ref (wt w 3)), (1, .ref (adr w 0)), (2, .int (i32 (gn G)))] [] 186 := by
  have hG := hK.g
  obtain ⟨S, c, ok, hI, rfl, rfl, hP, rfl⟩ := hK
  generalize hlt : ltr (wordU b0 (gn (aG S)) ++ wordU b1 (gn (aG S))) = lt at *
  refine ly_aload_n (pc := 186) 3 rfl dL_law_186 rfl ?_
  refine ly_aload (pc := 187) 0 rfl dL_law_187 ?_
  refine ly_callV (pc := 189) (As := []) (C := RJ4) own_own (sp_r (i := 0) rfl) rfl rfl (mj_toString own_own (sp_r (i := 0) rfl) (sp_r (i := 1) rfl) (by omega) (fun i _ => hB.2.1 i)) ok_J4_toString_0e30d ⟨Nat.le_of_ble_eq_true rfl, Nat.le_of_ble_eq_true rfl⟩ gj_885 gj_886 (fun C0 => C0.2.2.2.2.2.1 _ gj_887) rfl (rest := [.ref (adr w 0)]) rfl (Nat.le_of_ble_eq_true rfl) (by show k + 2 ≤ 600000; omega) (by show sl + (4 + lt.length) ≤ 7302250; omega) dL_law_189 (fun r L2 h => ?_)
  obtain ⟨s, q, g, hg, h2, h3⟩ := h; rw [h2, h3, sp_app]
  show LW w mu_L_law _ (own w) _ (wd w σ ++ (sbW w a v lt.length f ++ [(s, stC (.ref q)), (q, byC w lt.length g)])) _ _ [(4, .ref a), (3, .int (i32 j)), (0, .ref (wt w 3)), (1, .ref (adr w 0)), (2, .int (i32 (gn (aG S))))] [.ref s, .ref (adr w 0)] 192
  have hgl : ∀ k, k < lt.length → g k = i32 (lt.getD k 0) := fun k hk2 => (hg k hk2).trans (hB.1 k hk2)
  refine ly_callS (pc := 192) (As := [.ref (adr w 0), .ref s]) own_own (mj_types (i := 2) (j := 3) (n := lt.length) rfl hgl hB.2.2 hw h0k rfl rfl (by omega) hI hP) ok_L_types ⟨Nat.le_of_ble_eq_true rfl, Nat.le_of_ble_eq_true rfl⟩ (all2 gj_708 gj_709) rfl (rest := []) rfl (Nat.le_of_ble_eq_true rfl) (by show k + 2 + 1 ≤ 600000; omega) (by show sl + (4 + lt.length) + 5 ≤ 7302250; omega) dL_law_192 (fun r L2 h => ?_)
  obtain ⟨h4, σ', ws', c', h5, hI2⟩ := h; rw [h4, h5]
  show LW w mu_L_law _ (own w) _ (wd w σ' ++ ws') _ _ [(4, .ref a), (3, .int (i32 j)), (0, .ref (wt w 3)), (1, .ref (adr w 0)), (2, .int (i32 (gn (aG S))))] [] 195
  refine ly_forget ?_
  have hK2 : KJ (aG S) (aR S) lt (aT S).2 σ' := ⟨tpS S lt, c', tpS_ok ok (by omega) (fun x hx => by have := hB.2.2 x hx; omega), hI2, rfl, rfl, rfl, rfl⟩
  have hkR : k + 2 + 1 ≤ room_1.cells := by show k + 2 + 1 ≤ 600000; omega
  have hsR : sl + (4 + lt.length) + 5 ≤ room_1.slots := by show sl + (4 + lt.length) + 5 ≤ 7302250; omega
  have hmem : ∀ x, x ∈ wordU b0 (gn (aG S)) ++ wordU b1 (gn (aG S)) → x < gn (aG S) := fun x hx => by
    rcases List.mem_append.mp hx with h6 | h6
    · exact wordU_mem _ _ h6
    · exact wordU_mem _ _ h6
  rcases k_collect hK2 (by omega) (by rw [← hlt]; exact ltr_vlt hmem) with ⟨W, e, τ, hcol, hle, hW, e1, k1⟩ | ⟨τ, e1, k1⟩
  · refine ly_aload_n (pc := 195) 3 rfl dL_law_195 rfl ?_
    refine ly_cV (pc := 196) (As := []) (rest := []) (c_X10_collect hw _ _ e1) ok_X10_collect rfl ⟨Nat.le_of_ble_eq_true rfl, Nat.le_of_ble_eq_true rfl⟩ (all3 gj_598 gj_599 gj_600) h0k rfl rfl (Nat.le_of_ble_eq_true rfl) hkR hsR dL_law_196 ?_
    show LW w mu_L_law _ (own w) _ (wd w τ ++ []) _ _ [(4, .ref a), (3, .int (i32 j)), (0, .ref (wt w 3)), (1, .ref (adr w 0)), (2, .int (i32 (gn (aG S))))] [.int (i32 e)] 199
    refine ly_istore (pc := 199) (lv' := [(5, .int (i32 e)), (4, .ref a), (3, .int (i32 j)), (0, .ref (wt w 3)), (1, .ref (adr w 0)), (2, .int (i32 (gn (aG S))))]) dL_law_199 (ltb rfl) rfl ?_
    refine ly_iload (pc := 201) 0 rfl dL_law_201 ?_
    refine ly_bipush (pc := 203) (v := (-2)) dL_law_203 (by decide) ?_
    refine ly_icmp_ne (pc := 205) dL_law_205 (tgt := 211) rfl (fun _ => ?_) (fun h => absurd (congrArg Int32.toInt h) (by rw [i32_toInt (by omega), show (-2 : Int32).toInt = -2 from by decide]; omega))
    rw [← hlt, wdof_ltr] at hcol
    have hp := col_prod hG hcol
    refine l1_211 hw h0k hl k1 hc hW hle (fun k2 hk2 => ?_) (fun σ2 R2 h6 => kk _ _ _ _ _ _ h6 (by omega) (by omega)) (by omega) (by omega)
    rw [hp k2 hk2]
    exact mul_congr h0 h1 hk2
  · refine ly_aload_n (pc := 195) 3 rfl dL_law_195 rfl ?_
    refine ly_cV (pc := 196) (As := []) (rest := []) (c_X10_collect hw _ _ e1) ok_X10_collect rfl ⟨Nat.le_of_ble_eq_true rfl, Nat.le_of_ble_eq_true rfl⟩ (all3 gj_598 gj_599 gj_600) h0k rfl rfl (Nat.le_of_ble_eq_true rfl) hkR hsR dL_law_196 ?_
    show LW w mu_L_law _ (own w) _ (wd w τ ++ []) _ _ [(4, .ref a), (3, .int (i32 j)), (0, .ref (wt w 3)), (1, .ref (adr w 0)), (2, .int (i32 (gn (aG S))))] [.int (-2)] 199
    refine ly_istore (pc := 199) (lv' := [(5, .int (-2)), (4, .ref a), (3, .int (i32 j)), (0, .ref (wt w 3)), (1, .ref (adr w 0)), (2, .int (i32 (gn (aG S))))]) dL_law_199 (ltb rfl) rfl ?_
    refine ly_iload (pc := 201) 0 rfl dL_law_201 ?_
    refine ly_bipush (pc := 203) (v := (-2)) dL_law_203 (by decide) ?_
    refine ly_icmp_ne (pc := 205) dL_law_205 (tgt := 211) rfl (fun h => absurd rfl h) (fun _ => ?_)
    refine ly_goto (pc := 208) dL_law_208 (tgt := 304) rfl ?_
    refine ly_lv [2, 3, 4, 5] (lv' := [(3, .int (i32 j)), (0, .ref (wt w 3)), (1, .ref (adr w 0)), (2, .int (i32 (gn (aG S))))]) rfl ?_
    exact kk _ _ _ _ _ _ k1 (by omega) (by omega)
theorem l1_app {i rg m : Nat} (hav : True) (h1 : 1 ≤ i) (h6 : i < 7) (hm : m ≤ 16) (hk : k ≤ 500000) (hs : sl ≤ 6000000) : ∀ d t (lt : List Nat) (f : Nat → Int32), t + d = m → WB lt f → lt.length + d ≤ 16 → (∀ f', WB (lt ++ List.replicate d (96 + i)) f' → LW w mu_L_law room_1 (own w) (QW w) (wd w σ ++ sbW w a v (lt ++ List.replicate d (96 + i)).length f') k sl [(8, .int (i32 m)), (7, .int (i32 m)), (6, .int (i32 i)), (5, .int (i32 rg)), (4, .ref a), (3, .int (i32 j)), (0, .ref (wt w 3)), (1, .ref (adr w 0)), (2, .int (i32 (gn G)))] [] 174) → LW w mu_L_law room_1 (own w) (QW w) (wd w σ ++ sbW w a v (lt).length f) k sl [(8, .int (i32 t)), (7, .int (i32 m)), (6, .int (i32 i)), (5, .int (i32 rg)), (4, .ref a), (3, .int (i32 j)), (0, .ref (wt w 3)), (1, .ref (adr w 0)), (2, .int (i32 (gn G)))] [] 147 := by
  intro d
  induction d with
  | zero =>
    intro t lt f ht hB hl kk
    have hm : t = m := by omega
    subst hm
    rw [List.replicate_zero, List.append_nil] at kk
    refine ly_iload (pc := 147) 0 rfl dL_law_147 ?_
    refine ly_iload (pc := 149) 1 rfl dL_law_149 ?_
    refine ly_icmp_ge (pc := 151) dL_law_151 (tgt := 174) rfl (fun _ => ?_) (fun h => absurd (i_le (Nat.le_refl _) (by omega)) h)
    exact kk f hB
  | succ d ih =>
    intro t lt f ht hB hl kk
    refine ly_iload (pc := 147) 0 rfl dL_law_147 ?_
    refine ly_iload (pc := 149) 1 rfl dL_law_149 ?_
    refine ly_icmp_ge (pc := 151) dL_law_151 (tgt := 174) rfl (fun h => absurd h (i_nle (by omega) (by omega))) (fun _ => ?_)
    refine ly_aload (pc := 154) 4 rfl dL_law_154 ?_
    refine ly_bipush (pc := 156) (v := 97) dL_law_156 (by decide) ?_
    refine ly_iload (pc := 158) 2 rfl dL_law_158 ?_
    refine ly_iadd (pc := 160) dL_law_160 ?_
    refine ly_iconst (pc := 161) (v := 1) dL_law_161 (by decide) ?_
    refine ly_isub (pc := 162) dL_law_162 ?_
    obtain ⟨c1, c2, c3, c4⟩ := chr6 i h6 h1
    refine ly_i2c (pc := 163) (v := i32 (96 + i)) dL_law_163 c1 ?_
    refine ly_callV (pc := 164) (As := [.int (i32 (96 + i))]) (C := RJ4) own_own (sp_r (i := 0) rfl) rfl rfl (mj_append own_own (sp_r (i := 0) rfl) (sp_r (i := 1) rfl) (by omega) (by omega) c2) ok_J4_append_cf468 ⟨Nat.le_of_ble_eq_true rfl, Nat.le_of_ble_eq_true rfl⟩ gj_816 gj_817 (fun C0 => C0.2.2.2.2.2.1 _ gj_818) rfl (rest := []) rfl (Nat.le_of_ble_eq_true rfl) (Nat.le_trans hk (Nat.le_of_ble_eq_true rfl)) (Nat.le_trans hs (Nat.le_of_ble_eq_true rfl)) dL_law_164 (fun r L2 h => ?_)
    rw [h.1, h.2, sp_set, sp_set, i32_1, i32_add]; rw [show lt.length + 1 = (lt ++ [96 + i]).length by rw [List.length_append]; rfl]
    show LW w mu_L_law _ (own w) _ (wd w σ ++ sbW w a v (lt ++ [96 + i]).length (upd f (i32 lt.length).toNatClampNeg (vp_nar .byte (i32 (96 + i)).toInt8.toInt32))) _ _ [(8, .int (i32 t)), (7, .int (i32 m)), (6, .int (i32 i)), (5, .int (i32 rg)), (4, .ref a), (3, .int (i32 j)), (0, .ref (wt w 3)), (1, .ref (adr w 0)), (2, .int (i32 (gn G)))] [.ref a] 167
    refine ly_pop (pc := 167) dL_law_167 rfl ?_
    refine ly_iinc (pc := 168) (v := (i32 (t + 1))) (lv' := [(8, .int (i32 (t + 1))), (7, .int (i32 m)), (6, .int (i32 i)), (5, .int (i32 rg)), (4, .ref a), (3, .int (i32 j)), (0, .ref (wt w 3)), (1, .ref (adr w 0)), (2, .int (i32 (gn G)))]) 0 rfl dL_law_168 (by rw [show Int32.ofInt 1 = i32 1 from rfl, i32_add]) (ltb rfl) rfl ?_
    refine ly_goto (pc := 171) dL_law_171 (tgt := 147) rfl ?_
    refine ih (t + 1) (lt ++ [96 + i]) _ (by omega) (hB.add h1 h6 (by omega)) (by rw [List.length_append, List.length_singleton]; omega) (fun f' hB' => ?_)
    rw [List.append_assoc, show [96 + i] ++ List.replicate d (96 + i) = List.replicate (d + 1) (96 + i) from rfl] at hB' ⊢
    exact kk f' hB'
theorem l1_in {pre : List Nat} {R0 : Nat → Nat → Int} {mx r : Nat} (hw : WOK w) (h0k : isk w 0 10) (hl : wt w 4 ≤ 260) (hc : Cons G) (hj : j < 6) (hr : r < 2) (hmx : (gn G ≤ 4 ∧ mx = 2) ∨ (4 < gn G ∧ mx = 1)) (hpl : pre.length + gn G * mx ≤ 16) (kk : ∀ σ' R' c' f', KJ G R' [] T σ' → (∀ k, k < gn G → R' r k = ((c' k : Nat) : Int) ∧ c' k ≤ mx) → (∀ q, q ≠ r → R' q = R0 q) → WB (pre ++ ltr (wordU c' (gn G))) f' → LW w mu_L_law room_1 (own w) (QW w) (wd w σ' ++ sbW w a v (pre ++ ltr (wordU c' (gn G))).length f') k sl [(6, .int (i32 (gn G + 1))), (5, .int (i32 r)), (4, .ref a), (3, .int (i32 j)), (0, .ref (wt w 3)), (1, .ref (adr w 0)), (2, .int (i32 (gn G)))] [] 180) (hk : k ≤ 500000) (hs : sl ≤ 6000000) : ∀ d i, i + d = gn G + 1 → 1 ≤ i → ∀ σ R (c : Nat → Nat) (f : Nat → Int32), KJ G R [] T σ → (∀ k, k < i - 1 → R r k = ((c k : Nat) : Int) ∧ c k ≤ mx) → (∀ q, q ≠ r → R q = R0 q) → WB (pre ++ ltr (wordU c (i - 1))) f → LW w mu_L_law room_1 (own w) (QW w) (wd w σ ++ sbW w a v (pre ++ ltr (wordU c (i - 1))).length f) k sl [(6, .int (i32 i)), (5, .int (i32 r)), (4, .ref a), (3, .int (i32 j)), (0, .ref (wt w 3)), (1, .ref (adr w 0)), (2, .int (i32 (gn G)))] [] 91 := by
  intro d
  induction d with
  | zero =>
    intro i hi h1 σ R c f hK hR hq hB
    have hin : i = gn G + 1 := by omega
    subst hin
    rw [Nat.add_sub_cancel] at hR hB ⊢
    have hn : gn G ≤ 6 := hK.g.2.1
    refine ly_iload (pc := 91) 0 rfl dL_law_91 ?_
    refine ly_iload_n (pc := 93) 6 rfl dL_law_93 rfl ?_
    refine ly_icmp_gt (pc := 94) dL_law_94 (tgt := 180) rfl (fun _ => ?_) (fun h => absurd (i_lt (by omega) (by omega)) h)
    exact kk σ R c f hK hR hq hB
  | succ d ih =>
    intro i hi h1 σ R c f hK hR hq hB
    have hn : gn G ≤ 6 := hK.g.2.1
    have hkR : k ≤ room_1.cells := Nat.le_trans hk (Nat.le_of_ble_eq_true rfl)
    have hsR : sl ≤ room_1.slots := Nat.le_trans hs (Nat.le_of_ble_eq_true rfl)
    have h3 : (pre ++ ltr (wordU c (i - 1))).length ≤ pre.length + (i - 1) * mx := by
      rw [List.length_append, ltr_len]
      exact Nat.add_le_add_left (wordU_len _ (fun k hk2 => (hR k hk2).2)) _
    have h5 : pre.length + (i - 1) * mx + mx ≤ 16 := by
      have : (i - 1) * mx + mx ≤ gn G * mx := by rw [← Nat.succ_mul]; exact Nat.mul_le_mul_right _ (by omega)
      omega
    obtain ⟨vv, ev⟩ := s_cell (σ := σ) (sl := wt w 4) (sx := wS w) hl (k := 10 + 12 * j + 6 * r + i) (by omega)
    obtain ⟨t, ht, eb⟩ := s_between (σ := σ) (x := vv) (lo := 0) (hi := i32 mx) (m := mx + 1) (by rcases hmx with ⟨_, rfl⟩ | ⟨_, rfl⟩ <;> decide) (by omega) (by omega)
    rw [Int32.zero_add] at eb
    obtain ⟨τ, R', es, k1, g1, g2⟩ := k_set hK hc (r := r) (k := i - 1) (v := i32 t) (by omega) (by omega) (by rw [i32_toInt (by omega)]; omega)
    rw [show i - 1 + 1 = i by omega] at es
    have mid : LW w mu_L_law room_1 (own w) (QW w) (wd w σ ++ sbW w a v (pre ++ ltr (wordU c (i - 1))).length f) k sl [(6, .int (i32 i)), (5, .int (i32 r)), (4, .ref a), (3, .int (i32 j)), (0, .ref (wt w 3)), (1, .ref (adr w 0)), (2, .int (i32 (gn G)))] [.int (i32 mx), .int 0, .int vv] 128 := by
      refine ly_cS (pc := 128) (As := [.int vv, .int 0, .int (i32 mx)]) (rest := []) (c_L_between hw _ eb) ok_L_between ⟨Nat.le_of_ble_eq_true rfl, Nat.le_of_ble_eq_true rfl⟩ (all2 gj_625 gj_626) rfl rfl (Nat.le_of_ble_eq_true rfl) hkR hsR dL_law_128 ?_
      show LW w mu_L_law _ (own w) _ (wd w σ ++ sbW w a v (pre ++ ltr (wordU c (i - 1))).length f) _ _ [(6, .int (i32 i)), (5, .int (i32 r)), (4, .ref a), (3, .int (i32 j)), (0, .ref (wt w 3)), (1, .ref (adr w 0)), (2, .int (i32 (gn G)))] [.int (i32 t)] 131
      refine ly_istore (pc := 131) (lv' := [(7, .int (i32 t)), (6, .int (i32 i)), (5, .int (i32 r)), (4, .ref a), (3, .int (i32 j)), (0, .ref (wt w 3)), (1, .ref (adr w 0)), (2, .int (i32 (gn G)))]) dL_law_131 (ltb rfl) rfl ?_
      refine ly_aload_n (pc := 133) 6 rfl dL_law_133 rfl ?_
      refine ly_iload (pc := 134) 2 rfl dL_law_134 ?_
      refine ly_iload (pc := 136) 1 rfl dL_law_136 ?_
      refine ly_iload (pc := 138) 0 rfl dL_law_138 ?_
      refine ly_cV (pc := 140) (As := [.int (i32 r), .int (i32 i), .int (i32 t)]) (rest := []) (c_X10_set hw _ _ es) ok_X10_set rfl ⟨Nat.le_of_ble_eq_true rfl, Nat.le_of_ble_eq_true rfl⟩ (all3 gj_548 gj_549 gj_550) h0k rfl rfl (Nat.le_of_ble_eq_true rfl) hkR hsR dL_law_140 ?_
      show LW w mu_L_law _ (own w) _ (wd w τ ++ sbW w a v (pre ++ ltr (wordU c (i - 1))).length f) _ _ [(7, .int (i32 t)), (6, .int (i32 i)), (5, .int (i32 r)), (4, .ref a), (3, .int (i32 j)), (0, .ref (wt w 3)), (1, .ref (adr w 0)), (2, .int (i32 (gn G)))] [.int (b2i true)] 143
      refine ly_pop (pc := 143) dL_law_143 rfl ?_
      refine ly_iconst (pc := 144) (v := 0) dL_law_144 (by decide) ?_
      refine ly_istore (pc := 145) (lv' := [(8, .int 0), (7, .int (i32 t)), (6, .int (i32 i)), (5, .int (i32 r)), (4, .ref a), (3, .int (i32 j)), (0, .ref (wt w 3)), (1, .ref (adr w 0)), (2, .int (i32 (gn G)))]) dL_law_145 (ltb rfl) rfl ?_
      refine l1_app (m := t) trivial h1 (by omega) (by omega) hk hs t 0 _ f (by omega) hB (by omega) (fun f' hB' => ?_)
      rw [List.append_assoc, ltr_rep h1] at hB' ⊢
      refine ly_iinc (pc := 174) (v := (i32 (i + 1))) (lv' := [(6, .int (i32 (i + 1))), (8, .int (i32 t)), (7, .int (i32 t)), (5, .int (i32 r)), (4, .ref a), (3, .int (i32 j)), (0, .ref (wt w 3)), (1, .ref (adr w 0)), (2, .int (i32 (gn G)))]) 2 rfl dL_law_174 (by rw [show Int32.ofInt 1 = i32 1 from rfl, i32_add]) (ltb rfl) rfl ?_
      refine ly_goto (pc := 177) dL_law_177 (tgt := 91) rfl ?_
      refine ly_lv [0, 3, 4, 5, 6, 7, 8] (lv' := [(6, .int (i32 (i + 1))), (5, .int (i32 r)), (4, .ref a), (3, .int (i32 j)), (0, .ref (wt w 3)), (1, .ref (adr w 0)), (2, .int (i32 (gn G)))]) rfl ?_
      have hlast := ih (i + 1) (by omega) (by omega) τ R' (pE c (i - 1) t) f' k1 (fun k2 hk2 => ?_) (fun q hq2 => (g2 q hq2).trans (hq q hq2)) (by rw [Nat.add_sub_cancel]; exact hB')
      · rw [Nat.add_sub_cancel] at hlast; exact hlast
      · rw [g1 k2 (by omega)]
        unfold pE
        by_cases e : k2 = i - 1
        · rw [if_pos e, if_pos e, i32_toInt (by omega)]; exact ⟨rfl, by omega⟩
        · rw [if_neg e, if_neg e]; exact hR k2 (by omega)
    refine ly_iload (pc := 91) 0 rfl dL_law_91 ?_
    refine ly_iload_n (pc := 93) 6 rfl dL_law_93 rfl ?_
    refine ly_icmp_gt (pc := 94) dL_law_94 (tgt := 180) rfl (fun h => absurd h (i_nlt (by omega) (by omega))) (fun _ => ?_)
    refine ly_aload_n (pc := 97) 4 rfl dL_law_97 rfl ?_
    refine ly_bipush (pc := 98) (v := 10) dL_law_98 (by decide) ?_
    refine ly_bipush (pc := 100) (v := 12) dL_law_100 (by decide) ?_
    refine ly_iload_n (pc := 102) 3 rfl dL_law_102 rfl ?_
    refine ly_imul (pc := 103) dL_law_103 ?_
    refine ly_iadd (pc := 104) dL_law_104 ?_
    refine ly_bipush (pc := 105) (v := 6) dL_law_105 (by decide) ?_
    refine ly_iload (pc := 107) 1 rfl dL_law_107 ?_
    refine ly_imul (pc := 109) dL_law_109 ?_
    refine ly_iadd (pc := 110) dL_law_110 ?_
    refine ly_iload (pc := 111) 0 rfl dL_law_111 ?_
    refine ly_iadd (pc := 113) dL_law_113 ?_
    rw [show (10 : Int32) + 12 * i32 j + 6 * i32 r + i32 i = i32 (10 + 12 * j + 6 * r + i) from by rw [show (10 : Int32) = i32 10 from rfl, show (12 : Int32) = i32 12 from rfl, show (6 : Int32) = i32 6 from rfl, i32_mul, i32_add, i32_mul, i32_add, i32_add]]
    refine ly_cS (pc := 114) (As := [.ref (wt w 3), .int (i32 (10 + 12 * j + 6 * r + i))]) (rest := []) (c_L_cell hw rfl rfl _ ev) ok_L_cell ⟨Nat.le_of_ble_eq_true rfl, Nat.le_of_ble_eq_true rfl⟩ (all2 gj_621 gj_622) rfl rfl (Nat.le_of_ble_eq_true rfl) hkR hsR dL_law_114 ?_
    show LW w mu_L_law _ (own w) _ (wd w σ ++ sbW w a v (pre ++ ltr (wordU c (i - 1))).length f) _ _ [(6, .int (i32 i)), (5, .int (i32 r)), (4, .ref a), (3, .int (i32 j)), (0, .ref (wt w 3)), (1, .ref (adr w 0)), (2, .int (i32 (gn G)))] [.int vv] 117
    refine ly_iconst (pc := 117) (v := 0) dL_law_117 (by decide) ?_
    refine ly_iload_n (pc := 118) 6 rfl dL_law_118 rfl ?_
    refine ly_iconst (pc := 119) (v := 4) dL_law_119 (by decide) ?_
    refine ly_icmp_le (pc := 120) dL_law_120 (tgt := 127) rfl (fun h => ?_) (fun h => ?_)
    · have e2 : mx = 2 := by
        have h2 : i32 (gn G) ≤ i32 4 := h
        rw [i32_le (by omega) (by omega)] at h2
        omega
      refine ly_iconst (pc := 127) (v := 2) dL_law_127 (by decide) ?_
      rw [e2] at mid
      exact mid
    · have e1 : mx = 1 := by
        have h2 : ¬ i32 (gn G) ≤ i32 4 := h
        rw [i32_le (by omega) (by omega)] at h2
        omega
      refine ly_iconst (pc := 123) (v := 1) dL_law_123 (by decide) ?_
      refine ly_goto (pc := 124) dL_law_124 (tgt := 128) rfl ?_
      rw [e1] at mid
      exact mid
theorem l1_round (hw : WOK w) (h0k : isk w 0 10) (hl : wt w 4 ≤ 260) (hK : KJ G R [] T σ) (hc : Cons G) (hj : j < 6) (kk : ∀ σ' ws' R' T' k' sl', KJ G R' [] T' σ' → k' ≤ k + 5 → sl' ≤ sl + 45 → LW w mu_L_law room_1 (own w) (QW w) (wd w σ' ++ ws') k' sl' [(3, .int (i32 (j + 1))), (0, .ref (wt w 3)), (1, .ref (adr w 0)), (2, .int (i32 (gn G)))] [] 64) (hk : k ≤ 300000) (hs : sl ≤ 4000000) : LW w mu_L_law room_1 (own w) (QW w) (wd w σ ++ ws) k sl [(3, .int (i32 j)), (0, .ref (wt w 3)), (1, .ref (adr w 0)), (2, .int (i32 (gn G)))] [] 70 := by
  refine ly_forget ?_
  refine ly_new (pc := 70) (ci := 13) (fs := [.null, .int 0, .int 0, .int 0]) rfl wsJ4 tyJ4_ok gj_785 gj_786 gj_35 (fun j hj => by rcases j with _ | _ | _ | _ | j <;> first | rfl | omega) (by show k + 1 ≤ 600000; omega) (by show sl + 4 ≤ 7302250; omega) dL_law_70 (fun a => ?_)
  rw [sp_app, List.nil_append]
  show LW w mu_L_law _ (own w) _ (wd w σ ++ [(a, .inr (13, [.null, .int 0, .int 0, .int 0]))]) _ _ [(3, .int (i32 j)), (0, .ref (wt w 3)), (1, .ref (adr w 0)), (2, .int (i32 (gn G)))] [.ref a] 73
  refine ly_dup (pc := 73) dL_law_73 rfl ?_
  refine ly_callI (pc := 74) (As := []) own_own (mj_init own_own (sp_r (i := 0) rfl)) ok_J4_init_da8c8 rfl rfl ⟨Nat.le_of_ble_eq_true rfl, Nat.le_of_ble_eq_true rfl⟩ (all2 gj_787 gj_788) rfl (rest := [.ref a]) rfl (Nat.le_of_ble_eq_true rfl) (by show k + 1 + 1 ≤ 600000; omega) (by show sl + 4 + 16 ≤ 7302250; omega) dL_law_74 (fun r L2 h => ?_)
  obtain ⟨v, h1, h2⟩ := h; rw [h1, h2, sp_app, sp_set]
  show LW w mu_L_law _ (own w) _ (wd w σ ++ sbW w a v ([] : List Nat).length (fun _ => 0)) _ _ [(3, .int (i32 j)), (0, .ref (wt w 3)), (1, .ref (adr w 0)), (2, .int (i32 (gn G)))] [.ref a] 77
  refine ly_astore (pc := 77) (lv' := [(4, .ref a), (3, .int (i32 j)), (0, .ref (wt w 3)), (1, .ref (adr w 0)), (2, .int (i32 (gn G)))]) dL_law_77 (ltb rfl) rfl ?_
  refine ly_iconst (pc := 79) (v := 0) dL_law_79 (by decide) ?_
  refine ly_istore (pc := 80) (lv' := [(5, .int 0), (4, .ref a), (3, .int (i32 j)), (0, .ref (wt w 3)), (1, .ref (adr w 0)), (2, .int (i32 (gn G)))]) dL_law_80 (ltb rfl) rfl ?_
  have hG := hK.g
  have hn : gn G ≤ 6 := hG.2.1
  obtain ⟨mx, hmx⟩ : ∃ mx, (gn G ≤ 4 ∧ mx = 2) ∨ (4 < gn G ∧ mx = 1) := by
    by_cases h : gn G ≤ 4
    · exact ⟨2, Or.inl ⟨h, rfl⟩⟩
    · exact ⟨1, Or.inr ⟨by omega, rfl⟩⟩
  have hb2 : gn G * mx + gn G * mx ≤ 16 := by rcases hmx with ⟨h, rfl⟩ | ⟨h, rfl⟩ <;> omega
  refine ly_iload (pc := 82) 0 rfl dL_law_82 ?_
  refine ly_iconst (pc := 84) (v := 2) dL_law_84 (by decide) ?_
  refine ly_icmp_ge (pc := 85) dL_law_85 (tgt := 186) rfl (fun h => absurd h (by decide)) (fun _ => ?_)
  refine ly_iconst (pc := 88) (v := 1) dL_law_88 (by decide) ?_
  refine ly_istore (pc := 89) (lv' := [(6, .int 1), (5, .int 0), (4, .ref a), (3, .int (i32 j)), (0, .ref (wt w 3)), (1, .ref (adr w 0)), (2, .int (i32 (gn G)))]) dL_law_89 (ltb rfl) rfl ?_
  refine l1_in (pre := []) (k := k + 1 + 1) (sl := sl + 4 + 16) (R0 := R) (mx := mx) (r := 0) hw h0k hl hc hj (by omega) hmx (by rw [List.length_nil]; omega) (fun σ1 R1 b0 f1 k1 g1 g2 hB1 => ?_) (by omega) (by omega) (gn G) 1 (by omega) (by omega) σ R (fun _ => 0) (fun _ => 0) hK (fun k2 hk2 => absurd hk2 (by omega)) (fun _ _ => rfl) WB.nil
  rw [List.nil_append] at hB1 ⊢
  refine ly_iinc (pc := 180) (v := 1) (lv' := [(5, .int 1), (6, .int (i32 (gn G + 1))), (4, .ref a), (3, .int (i32 j)), (0, .ref (wt w 3)), (1, .ref (adr w 0)), (2, .int (i32 (gn G)))]) 1 rfl dL_law_180 (by decide) (ltb rfl) rfl ?_
  refine ly_goto (pc := 183) dL_law_183 (tgt := 82) rfl ?_
  refine ly_iload (pc := 82) 0 rfl dL_law_82 ?_
  refine ly_iconst (pc := 84) (v := 2) dL_law_84 (by decide) ?_
  refine ly_icmp_ge (pc := 85) dL_law_85 (tgt := 186) rfl (fun h => absurd h (by decide)) (fun _ => ?_)
  refine ly_iconst (pc := 88) (v := 1) dL_law_88 (by decide) ?_
  refine ly_istore (pc := 89) (lv' := [(6, .int 1), (5, .int 1), (4, .ref a), (3, .int (i32 j)), (0, .ref (wt w 3)), (1, .ref (adr w 0)), (2, .int (i32 (gn G)))]) dL_law_89 (ltb rfl) rfl ?_
  have hp1 : (ltr (wordU b0 (gn G))).length ≤ gn G * mx := by rw [ltr_len]; exact wordU_len _ (fun k2 hk2 => (g1 k2 hk2).2)
  have e0 : ltr (wordU b0 (gn G)) ++ ltr (wordU (fun _ => 0) (1 - 1)) = ltr (wordU b0 (gn G)) := List.append_nil _
  rw [← e0]
  refine l1_in (pre := ltr (wordU b0 (gn G))) (k := k + 1 + 1) (sl := sl + 4 + 16) (R0 := R1) (mx := mx) (r := 1) hw h0k hl hc hj (by omega) hmx (by omega) (fun σ2 R2 b1 f2 k2 g3 g4 hB2 => ?_) (by omega) (by omega) (gn G) 1 (by omega) (by omega) σ1 R1 (fun _ => 0) f1 k1 (fun k2 hk2 => absurd hk2 (by omega)) (fun _ _ => rfl) (by rw [show ltr (wordU (fun _ => 0) (1 - 1)) = [] from rfl, List.append_nil]; exact hB1)
  have hp2 : (ltr (wordU b0 (gn G)) ++ ltr (wordU b1 (gn G))).length ≤ 16 := by
    have := wordU_len (b := b1) (gn G) (fun k2 hk2 => (g3 k2 hk2).2)
    rw [List.length_append, ltr_len (a := wordU b1 (gn G))]; omega
  rw [← ltr_app] at hB2 hp2 ⊢
  refine ly_iinc (pc := 180) (v := 2) (lv' := [(5, .int 2), (6, .int (i32 (gn G + 1))), (4, .ref a), (3, .int (i32 j)), (0, .ref (wt w 3)), (1, .ref (adr w 0)), (2, .int (i32 (gn G)))]) 1 rfl dL_law_180 (by decide) (ltb rfl) rfl ?_
  refine ly_goto (pc := 183) dL_law_183 (tgt := 82) rfl ?_
  refine ly_iload (pc := 82) 0 rfl dL_law_82 ?_
  refine ly_iconst (pc := 84) (v := 2) dL_law_84 (by decide) ?_
  refine ly_icmp_ge (pc := 85) dL_law_85 (tgt := 186) rfl (fun _ => ?_) (fun h => absurd (by decide : (2 : Int32) ≤ 2) h)
  refine ly_lv [2, 3, 4, 5, 6] (lv' := [(4, .ref a), (3, .int (i32 j)), (0, .ref (wt w 3)), (1, .ref (adr w 0)), (2, .int (i32 (gn G)))]) rfl ?_
  exact l1_186 hw h0k hl k2 hc hB2 hp2 (fun k3 hk3 => by rw [g4 0 (by omega)]; exact (g1 k3 hk3).1) (fun k3 hk3 => (g3 k3 hk3).1) (fun σ3 ws3 R3 T3 k3 sl3 h3 hk3 hs3 => l1_next (kk _ _ _ _ _ _ h3 (by omega) (by omega))) (by omega) (by omega)
theorem l1_loop (hw : WOK w) (h0k : isk w 0 10) (hl : wt w 4 ≤ 260) (hc : Cons G) : ∀ d j, j + d = 6 → ∀ σ ws R T k sl, KJ G R [] T σ → k ≤ 1000 + 5 * j → sl ≤ 300000 + 45 * j → LW w mu_L_law room_1 (own w) (QW w) (wd w σ ++ ws) k sl [(3, .int (i32 j)), (0, .ref (wt w 3)), (1, .ref (adr w 0)), (2, .int (i32 (gn G)))] [] 64 := by
  intro d
  induction d with
  | zero =>
    intro j hj σ ws R T k sl hK hk hs
    have h6 : j = 6 := by omega
    subst h6
    refine ly_iload_n (pc := 64) 0 rfl dL_law_64 rfl ?_
    refine ly_bipush (pc := 65) (v := 6) dL_law_65 (by decide) ?_
    refine ly_icmp_ge (pc := 67) dL_law_67 (tgt := 310) rfl (fun _ => ?_) (fun h => absurd (by decide : (6 : Int32) ≤ i32 6) h)
    refine ly_iconst (pc := 310) (v := 0) dL_law_310 (by decide) ?_
    refine ly_istore_n (pc := 311) (lv' := [(3, .int 0), (0, .ref (wt w 3)), (1, .ref (adr w 0)), (2, .int (i32 (gn G)))]) dL_law_311 rfl (ltb rfl) rfl ?_
    exact l2_loop hw h0k hl hc (by omega) (by omega) 6 0 rfl _ _ _ hK
  | succ d ih =>
    intro j hj σ ws R T k sl hK hk hs
    refine ly_iload_n (pc := 64) 0 rfl dL_law_64 rfl ?_
    refine ly_bipush (pc := 65) (v := 6) dL_law_65 (by decide) ?_
    refine ly_icmp_ge (pc := 67) dL_law_67 (tgt := 310) rfl (fun h => absurd h (i_nle (a := 6) (by omega) (by omega))) (fun _ => ?_)
    exact l1_round hw h0k hl hK hc (by omega) (fun σ1 ws1 R1 T1 k1 sl1 h1 hk1 hs1 => ih (j + 1) (by omega) _ _ _ _ _ _ h1 (by omega) (by omega)) (by omega) (by omega)
theorem l0_group {S : AS} {c : Nat} (hw : WOK w) (h0k : isk w 0 10) (hl : wt w 4 ≤ 260) (h : ICls c S σ) (ok : OKS S) (hcc : c ≤ 300) (hP : aP S = []) (hk : k ≤ 1000) (hs : sl ≤ 300000) : LW w mu_L_law room_1 (own w) (QW w) (wd w σ ++ ws) k sl [(1, .ref (adr w 0)), (0, .ref (wt w 3))] [] 8 := by
  have hkR : k ≤ room_1.cells := Nat.le_trans hk (Nat.le_of_ble_eq_true rfl)
  have hsR : sl ≤ room_1.slots := Nat.le_trans hs (Nat.le_of_ble_eq_true rfl)
  obtain ⟨S', c', τ, e, ok', h', h2, h6, hP'⟩ := s_grp (sl := wt w 4) (sx := wS w) hl h ok hcc
  refine ly_aload_n (pc := 8) 0 rfl dL_law_8 rfl ?_
  refine ly_aload_n (pc := 9) 1 rfl dL_law_9 rfl ?_
  refine ly_cS (pc := 10) (As := [.ref (adr w 0), .ref (wt w 3)]) (rest := []) (c_L_group hw rfl rfl _ _ e) ok_L_group ⟨Nat.le_of_ble_eq_true rfl, Nat.le_of_ble_eq_true rfl⟩ (all2 gj_629 gj_630) rfl rfl (Nat.le_of_ble_eq_true rfl) hkR hsR dL_law_10 ?_
  show LW w mu_L_law _ (own w) _ (wd w τ ++ ws) _ _ [(1, .ref (adr w 0)), (0, .ref (wt w 3))] [.int (i32 (gn (aG S')))] 13
  refine ly_istore_n (pc := 13) (lv' := [(2, .int (i32 (gn (aG S')))), (1, .ref (adr w 0)), (0, .ref (wt w 3))]) dL_law_13 rfl (ltb rfl) rfl ?_
  refine ly_iload_n (pc := 14) 0 rfl dL_law_14 rfl ?_
  refine ly_if_ge (pc := 15) dL_law_15 (tgt := 20) rfl (fun _ => ?_) (fun h => absurd (i_le (a := 0) (by omega) (by omega)) h)
  refine ly_aload_n (pc := 20) 1 rfl dL_law_20 rfl ?_
  obtain ⟨b, eC, hb, -⟩ := s_cons h'
  refine ly_cV (pc := 21) (As := []) (rest := []) (c_X10_consistent hw _ eC) ok_X10_consistent rfl ⟨Nat.le_of_ble_eq_true rfl, Nat.le_of_ble_eq_true rfl⟩ (all3 gj_529 gj_530 gj_531) h0k rfl rfl (Nat.le_of_ble_eq_true rfl) hkR hsR dL_law_21 ?_
  show LW w mu_L_law _ (own w) _ (wd w τ ++ ws) _ _ [(2, .int (i32 (gn (aG S')))), (1, .ref (adr w 0)), (0, .ref (wt w 3))] [.int (if b = true then 1 else 0)] 24
  cases b with
  | true =>
    show LW w mu_L_law _ (own w) _ (wd w τ ++ ws) _ _ [(2, .int (i32 (gn (aG S')))), (1, .ref (adr w 0)), (0, .ref (wt w 3))] [.int 1] 24
    refine ly_if_ne (pc := 24) dL_law_24 (tgt := 62) rfl (fun _ => ?_) (fun h => absurd h (by decide))
    refine ly_iconst (pc := 62) (v := 0) dL_law_62 (by decide) ?_
    refine ly_istore_n (pc := 63) (lv' := [(3, .int 0), (2, .int (i32 (gn (aG S')))), (1, .ref (adr w 0)), (0, .ref (wt w 3))]) dL_law_63 rfl (ltb rfl) rfl ?_
    refine ly_lv [0, 3, 2, 1] (lv' := [(3, .int 0), (0, .ref (wt w 3)), (1, .ref (adr w 0)), (2, .int (i32 (gn (aG S'))))]) rfl ?_
    exact l1_loop hw h0k hl (hb.mp rfl) 6 0 rfl _ _ _ _ _ _ ⟨S', c', ok', h', rfl, rfl, hP'.trans hP, rfl⟩ (by omega) (by omega)
  | false =>
    show LW w mu_L_law _ (own w) _ (wd w τ ++ ws) _ _ [(2, .int (i32 (gn (aG S')))), (1, .ref (adr w 0)), (0, .ref (wt w 3))] [.int 0] 24
    refine ly_if_ne (pc := 24) dL_law_24 (tgt := 62) rfl (fun h => absurd rfl h) (fun _ => ?_)
    have hnc : ¬ Cons (aG S') := fun z => absurd (hb.mpr z) (by decide)
    have e1 := s_set0 h' ok' hnc (r := 0) (k := 0) (v := 1) (by omega) (by omega)
    refine ly_aload_n (pc := 27) 1 rfl dL_law_27 rfl ?_
    refine ly_iconst (pc := 28) (v := 0) dL_law_28 (by decide) ?_
    refine ly_iconst (pc := 29) (v := 1) dL_law_29 (by decide) ?_
    refine ly_iconst (pc := 30) (v := 1) dL_law_30 (by decide) ?_
    refine ly_cV (pc := 31) (As := [.int 0, .int 1, .int 1]) (rest := []) (c_X10_set hw _ _ e1) ok_X10_set rfl ⟨Nat.le_of_ble_eq_true rfl, Nat.le_of_ble_eq_true rfl⟩ (all3 gj_548 gj_549 gj_550) h0k rfl rfl (Nat.le_of_ble_eq_true rfl) hkR hsR dL_law_31 ?_
    show LW w mu_L_law _ (own w) _ (wd w τ ++ ws) _ _ [(2, .int (i32 (gn (aG S')))), (1, .ref (adr w 0)), (0, .ref (wt w 3))] [.int (b2i false)] 34
    refine ly_if_ne (pc := 34) dL_law_34 (tgt := 60) rfl (fun h => absurd rfl h) (fun _ => ?_)
    refine ly_aload_n (pc := 37) 1 rfl dL_law_37 rfl ?_
    refine ly_iconst (pc := 38) (v := 0) dL_law_38 (by decide) ?_
    refine ly_iconst (pc := 39) (v := 0) dL_law_39 (by decide) ?_
    refine ly_iconst (pc := 40) (v := 0) dL_law_40 (by decide) ?_
    refine ly_cV (pc := 41) (As := [.int 0, .int 0, .int 0]) (rest := []) (c_X10_multiply hw _ _ (s_mult0 h' hnc)) ok_X10_multiply rfl ⟨Nat.le_of_ble_eq_true rfl, Nat.le_of_ble_eq_true rfl⟩ (all3 gj_571 gj_572 gj_573) h0k rfl rfl (Nat.le_of_ble_eq_true rfl) hkR hsR dL_law_41 ?_
    show LW w mu_L_law _ (own w) _ (wd w τ ++ ws) _ _ [(2, .int (i32 (gn (aG S')))), (1, .ref (adr w 0)), (0, .ref (wt w 3))] [.int (b2i false)] 44
    refine ly_if_ne (pc := 44) dL_law_44 (tgt := 60) rfl (fun h => absurd rfl h) (fun _ => ?_)
    refine ly_aload_n (pc := 47) 1 rfl dL_law_47 rfl ?_
    refine ly_iconst (pc := 48) (v := 1) dL_law_48 (by decide) ?_
    refine ly_cV (pc := 49) (As := [.int 1]) (rest := []) (c_X10_terms hw _ (s_terms0 h' ok' hnc)) ok_X10_terms rfl ⟨Nat.le_of_ble_eq_true rfl, Nat.le_of_ble_eq_true rfl⟩ (all3 gj_536 gj_537 gj_538) h0k rfl rfl (Nat.le_of_ble_eq_true rfl) hkR hsR dL_law_49 ?_
    show LW w mu_L_law _ (own w) _ (wd w τ ++ ws) _ _ [(2, .int (i32 (gn (aG S')))), (1, .ref (adr w 0)), (0, .ref (wt w 3))] [.int (-1)] 52
    refine ly_iconst (pc := 52) (v := (-1)) dL_law_52 (by decide) ?_
    refine ly_icmp_ne (pc := 53) dL_law_53 (tgt := 60) rfl (fun h => absurd rfl h) (fun _ => ?_)
    refine ly_iconst (pc := 56) (v := 1) dL_law_56 (by decide) ?_
    refine ly_goto (pc := 57) dL_law_57 (tgt := 61) rfl ?_
    refine ly_widen (k' := 600000) (sl' := 7302250) (Nat.le_trans hk (Nat.le_of_ble_eq_true rfl)) (Nat.le_trans hs (Nat.le_of_ble_eq_true rfl)) ?_
    exact ly_zret (ty := .boolean) rfl rfl rfl rfl rfl dL_law_61
end LAW
