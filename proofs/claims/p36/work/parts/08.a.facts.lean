theorem mgP {T : List Cond} (hT : ∀ w, w ∈ T → w ∈ lw_tbl) {w : Cond} (i : Nat) (h : T[i]? = some w) (g : goodWord w = true) : w ∈ goodTbl := List.mem_filter.mpr ⟨hT _ (List.mem_of_getElem? h), g⟩
theorem tb_1 : ∀ w, w ∈ tables_1_1 → w ∈ lw_tbl := fun w h => List.mem_append_right _ (show w ∈ tables_1 from List.mem_append_left _ h)
theorem tb_2 : ∀ w, w ∈ tables_1_2 → w ∈ lw_tbl := fun w h => List.mem_append_right _ (show w ∈ tables_1 from List.mem_append_right _ (List.mem_append_left _ h))
theorem tb_3 : ∀ w, w ∈ tables_1_3 → w ∈ lw_tbl := fun w h => List.mem_append_right _ (show w ∈ tables_1 from List.mem_append_right _ (List.mem_append_right _ (List.mem_append_left _ h)))
theorem tb_4 : ∀ w, w ∈ tables_1_4 → w ∈ lw_tbl := fun w h => List.mem_append_right _ (show w ∈ tables_1 from List.mem_append_right _ (List.mem_append_right _ (List.mem_append_right _ (h))))
def pcs : Nat → List Cond | 1 => tables_1_1 | 2 => tables_1_2 | 3 => tables_1_3 | 4 => tables_1_4 | _ => []
theorem pcs_in : ∀ q w, w ∈ pcs q → w ∈ lw_tbl := fun q w h => by
  match q, h with
  | 1, h => exact tb_1 w h
  | 2, h => exact tb_2 w h
  | 3, h => exact tb_3 w h
  | 4, h => exact tb_4 w h
  | 0, h => cases h
  | q + 5, h => cases h
def wsB : List Cond → List (Nat × Nat) → Bool
  | [], _ => true
  | w :: ws, q :: L => decide ((pcs q.1)[q.2]? = some w) && (goodWord w && wsB ws L)
  | _ :: _, [] => false
theorem wsI : ∀ (ws : List Cond) (L : List (Nat × Nat)), wsB ws L = true → ∀ w ∈ ws, w ∈ goodTbl
  | [], _, _, _, hw => by cases hw
  | w :: ws, [], h, _, _ => by cases h
  | w :: ws, q :: L, h, v, hv => by
    have h1 : (decide ((pcs q.1)[q.2]? = some w) && (goodWord w && wsB ws L)) = true := h
    rw [Bool.and_eq_true, Bool.and_eq_true] at h1
    rcases List.mem_cons.mp hv with e | e
    · rw [e]
      exact mgP (pcs_in q.1) q.2 (of_decide_eq_true h1.1) h1.2.1
    · exact wsI ws L h1.2.2 v e
theorem ws_0 : ∀ w ∈ u_ws RX0 TX0 8, w ∈ goodTbl := wsI _ [(1, 179), (1, 181), (1, 183), (1, 185), (1, 187), (1, 189), (1, 191), (1, 193)] (by decide +kernel)
theorem ws_1 : ∀ w ∈ u_ws RX1 TX1 10, w ∈ goodTbl := wsI _ [(2, 31), (2, 33), (2, 35), (2, 37), (2, 39), (2, 41), (2, 43), (2, 45), (2, 47), (2, 49)] (by decide +kernel)
theorem ws_2 : ∀ w ∈ u_ws RX2 TX2 7, w ∈ goodTbl := wsI _ [(1, 89), (1, 91), (1, 93), (1, 95), (1, 97), (1, 99), (1, 101)] (by decide +kernel)
theorem ws_3 : ∀ w ∈ u_ws RX3 TX3 3, w ∈ goodTbl := wsI _ [(1, 212), (1, 214), (1, 216)] (by decide +kernel)
theorem ws_4 : ∀ w ∈ u_ws RX4 TX4 9, w ∈ goodTbl := wsI _ [(1, 146), (1, 148), (1, 150), (1, 152), (1, 154), (1, 156), (1, 158), (1, 160), (1, 162)] (by decide +kernel)
theorem ws_5 : ∀ w ∈ u_ws RX5 TX5 11, w ∈ goodTbl := wsI _ [(2, 72), (2, 74), (2, 76), (2, 78), (2, 80), (2, 82), (2, 84), (2, 86), (2, 88), (2, 90), (2, 92)] (by decide +kernel)
theorem ws_6 : ∀ w ∈ u_ws RX6 TX6 3, w ∈ goodTbl := wsI _ [(1, 49), (1, 51), (1, 53)] (by decide +kernel)
theorem ws_7 : ∀ w ∈ u_ws RX7 TX7 11, w ∈ goodTbl := wsI _ [(1, 232), (1, 234), (1, 236), (1, 238), (2, 0), (2, 2), (2, 4), (2, 6), (2, 8), (2, 10), (2, 12)] (by decide +kernel)
theorem ws_8 : ∀ w ∈ u_ws RX8 TX8 3, w ∈ goodTbl := wsI _ [(1, 65), (1, 67), (1, 69)] (by decide +kernel)
theorem ws_9 : ∀ w ∈ u_ws RX9 TX9 4, w ∈ goodTbl := wsI _ [(1, 125), (1, 127), (1, 129), (1, 131)] (by decide +kernel)
theorem ws_10 : ∀ w ∈ u_ws RX10 TX10 17, w ∈ goodTbl := wsI _ [(2, 235), (2, 237), (2, 239), (3, 1), (3, 3), (3, 5), (3, 7), (3, 9), (3, 11), (3, 13), (3, 15), (3, 17), (3, 19), (3, 21), (3, 23), (3, 25), (3, 27)] (by decide +kernel)
theorem ws_11 : ∀ w ∈ u_ws RX11 TX11 0, w ∈ goodTbl := wsI _ [] (by decide +kernel)
