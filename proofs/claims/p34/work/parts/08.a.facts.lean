theorem mgP {T : List Cond} (hT : ∀ w, w ∈ T → w ∈ lw_tbl) {w : Cond} (i : Nat) (h : T[i]? = some w) (g : goodWord w = true) : w ∈ goodTbl := List.mem_filter.mpr ⟨hT _ (List.mem_of_getElem? h), g⟩
theorem tb_1 : ∀ w, w ∈ tables_1_1 → w ∈ lw_tbl := fun w h => List.mem_append_right _ (show w ∈ tables_1 from List.mem_append_left _ h)
theorem tb_2 : ∀ w, w ∈ tables_1_2 → w ∈ lw_tbl := fun w h => List.mem_append_right _ (show w ∈ tables_1 from List.mem_append_right _ (List.mem_append_left _ h))
theorem tb_3 : ∀ w, w ∈ tables_1_3 → w ∈ lw_tbl := fun w h => List.mem_append_right _ (show w ∈ tables_1 from List.mem_append_right _ (List.mem_append_right _ (List.mem_append_left _ h)))
theorem tb_4 : ∀ w, w ∈ tables_1_4 → w ∈ lw_tbl := fun w h => List.mem_append_right _ (show w ∈ tables_1 from List.mem_append_right _ (List.mem_append_right _ (List.mem_append_right _ (List.mem_append_left _ h))))
theorem tb_5 : ∀ w, w ∈ tables_1_5 → w ∈ lw_tbl := fun w h => List.mem_append_right _ (show w ∈ tables_1 from List.mem_append_right _ (List.mem_append_right _ (List.mem_append_right _ (List.mem_append_right _ (List.mem_append_left _ h)))))
theorem tb_6 : ∀ w, w ∈ tables_1_6 → w ∈ lw_tbl := fun w h => List.mem_append_right _ (show w ∈ tables_1 from List.mem_append_right _ (List.mem_append_right _ (List.mem_append_right _ (List.mem_append_right _ (List.mem_append_right _ (List.mem_append_left _ h))))))
theorem tb_7 : ∀ w, w ∈ tables_1_7 → w ∈ lw_tbl := fun w h => List.mem_append_right _ (show w ∈ tables_1 from List.mem_append_right _ (List.mem_append_right _ (List.mem_append_right _ (List.mem_append_right _ (List.mem_append_right _ (List.mem_append_right _ (List.mem_append_left _ h)))))))
theorem tb_8 : ∀ w, w ∈ tables_1_8 → w ∈ lw_tbl := fun w h => List.mem_append_right _ (show w ∈ tables_1 from List.mem_append_right _ (List.mem_append_right _ (List.mem_append_right _ (List.mem_append_right _ (List.mem_append_right _ (List.mem_append_right _ (List.mem_append_right _ (h))))))))
def pcs : Nat → List Cond | 1 => tables_1_1 | 2 => tables_1_2 | 3 => tables_1_3 | 4 => tables_1_4 | 5 => tables_1_5 | 6 => tables_1_6 | 7 => tables_1_7 | 8 => tables_1_8 | _ => []
theorem pcs_in : ∀ q w, w ∈ pcs q → w ∈ lw_tbl := fun q w h => by
  match q, h with
  | 1, h => exact tb_1 w h
  | 2, h => exact tb_2 w h
  | 3, h => exact tb_3 w h
  | 4, h => exact tb_4 w h
  | 5, h => exact tb_5 w h
  | 6, h => exact tb_6 w h
  | 7, h => exact tb_7 w h
  | 8, h => exact tb_8 w h
  | 0, h => cases h
  | q + 9, h => cases h
def wsB : List Cond → List (Nat × Nat) → Bool
  | [], _ => true
  | w :: ws, q :: L => decide ((pcs q.1)[q.2]? = some w) && (goodWord w && wsB ws L)
  | _ :: _, [] => false
theorem wsI : ∀ (ws : List Cond) (L : List (Nat × Nat)), wsB ws L = true → ∀ w ∈ ws, w ∈ goodTbl
  | [], _, _, _, hw => by cases hw
  | w :: ws, [], h, _, _ => by cases h
  | w :: ws, q :: L, h, v, hv => by
    have h1 : (decide ((pcs q.1)[q.2]? = some w) && (goodWord w && wsB ws L)) = true := h
    rw [Bool.and_eq_true, Bool.and_eq_true] at h1
    rcases List.mem_cons.mp hv with e | e
    · rw [e]
      exact mgP (pcs_in q.1) q.2 (of_decide_eq_true h1.1) h1.2.1
    · exact wsI ws L h1.2.2 v e
theorem ws_0 : ∀ w ∈ u_ws RX0 TX0 8, w ∈ goodTbl := wsI _ [(1, 191), (1, 193), (1, 195), (1, 197), (1, 199), (1, 201), (1, 203), (1, 205)] (by decide +kernel)
theorem ws_1 : ∀ w ∈ u_ws RX1 TX1 10, w ∈ goodTbl := wsI _ [(2, 44), (2, 46), (2, 48), (2, 50), (2, 52), (2, 54), (2, 56), (2, 58), (2, 60), (2, 62)] (by decide +kernel)
theorem ws_2 : ∀ w ∈ u_ws RX2 TX2 7, w ∈ goodTbl := wsI _ [(1, 92), (1, 94), (1, 96), (1, 98), (1, 100), (1, 102), (1, 104)] (by decide +kernel)
theorem ws_3 : ∀ w ∈ u_ws RX3 TX3 3, w ∈ goodTbl := wsI _ [(1, 225), (1, 227), (1, 229)] (by decide +kernel)
theorem ws_4 : ∀ w ∈ u_ws RX4 TX4 9, w ∈ goodTbl := wsI _ [(1, 158), (1, 160), (1, 162), (1, 164), (1, 166), (1, 168), (1, 170), (1, 172), (1, 174)] (by decide +kernel)
theorem ws_5 : ∀ w ∈ u_ws RX5 TX5 11, w ∈ goodTbl := wsI _ [(2, 88), (2, 90), (2, 92), (2, 94), (2, 96), (2, 98), (2, 100), (2, 102), (2, 104), (2, 106), (2, 108)] (by decide +kernel)
theorem ws_6 : ∀ w ∈ u_ws RX6 TX6 3, w ∈ goodTbl := wsI _ [(1, 50), (1, 52), (1, 54)] (by decide +kernel)
theorem ws_7 : ∀ w ∈ u_ws RX7 TX7 11, w ∈ goodTbl := wsI _ [(2, 5), (2, 7), (2, 9), (2, 11), (2, 13), (2, 15), (2, 17), (2, 19), (2, 21), (2, 23), (2, 25)] (by decide +kernel)
theorem ws_8 : ∀ w ∈ u_ws RX8 TX8 3, w ∈ goodTbl := wsI _ [(1, 68), (1, 70), (1, 72)] (by decide +kernel)
theorem ws_9 : ∀ w ∈ u_ws RX9 TX9 4, w ∈ goodTbl := wsI _ [(1, 133), (1, 135), (1, 137), (1, 139)] (by decide +kernel)
theorem ws_10 : ∀ w ∈ u_ws RX10 TX10 17, w ∈ goodTbl := wsI _ [(3, 11), (3, 13), (3, 15), (3, 17), (3, 19), (3, 21), (3, 23), (3, 25), (3, 27), (3, 29), (3, 31), (3, 33), (3, 35), (3, 37), (3, 39), (3, 41), (3, 43)] (by decide +kernel)
theorem ws_11 : ∀ w ∈ u_ws RX11 TX11 39, w ∈ goodTbl := wsI _ [(5, 215), (5, 217), (5, 219), (5, 221), (5, 223), (5, 225), (5, 227), (5, 229), (5, 231), (5, 233), (5, 235), (5, 237), (5, 239), (6, 1), (6, 3), (6, 5), (6, 7), (6, 9), (6, 11), (6, 13), (6, 15), (6, 17), (6, 19), (6, 21), (6, 23), (6, 25), (6, 27), (6, 29), (6, 31), (6, 33), (6, 35), (6, 37), (6, 39), (6, 41), (6, 43), (6, 45), (6, 47), (6, 49), (6, 51)] (by decide +kernel)
