/-! ===== every block is checked ===== -/
set_option maxRecDepth 100000 in
theorem amChk_0 : ((List.range 10).all (fun k => amChkM (0 + k))) = true := by decide +kernel
set_option maxRecDepth 100000 in
theorem amChk_1 : ((List.range 10).all (fun k => amChkM (10 + k))) = true := by decide +kernel
set_option maxRecDepth 100000 in
theorem amChk_2 : ((List.range 10).all (fun k => amChkM (20 + k))) = true := by decide +kernel
set_option maxRecDepth 100000 in
theorem amChk_3 : ((List.range 10).all (fun k => amChkM (30 + k))) = true := by decide +kernel
set_option maxRecDepth 100000 in
theorem amChk_4 : ((List.range 10).all (fun k => amChkM (40 + k))) = true := by decide +kernel
set_option maxRecDepth 100000 in
theorem amChk_5 : ((List.range 10).all (fun k => amChkM (50 + k))) = true := by decide +kernel
set_option maxRecDepth 100000 in
theorem amChk_6 : ((List.range 10).all (fun k => amChkM (60 + k))) = true := by decide +kernel
set_option maxRecDepth 100000 in
theorem amChk_7 : ((List.range 10).all (fun k => amChkM (70 + k))) = true := by decide +kernel
set_option maxRecDepth 100000 in
theorem amChk_8 : ((List.range 10).all (fun k => amChkM (80 + k))) = true := by decide +kernel
set_option maxRecDepth 100000 in
theorem amChk_9 : ((List.range 10).all (fun k => amChkM (90 + k))) = true := by decide +kernel
set_option maxRecDepth 100000 in
theorem amChk_10 : ((List.range 10).all (fun k => amChkM (100 + k))) = true := by decide +kernel
set_option maxRecDepth 100000 in
theorem amChk_11 : ((List.range 10).all (fun k => amChkM (110 + k))) = true := by decide +kernel
set_option maxRecDepth 100000 in
theorem amChk_12 : ((List.range 10).all (fun k => amChkM (120 + k))) = true := by decide +kernel
set_option maxRecDepth 100000 in
theorem amChk_13 : ((List.range 10).all (fun k => amChkM (130 + k))) = true := by decide +kernel
set_option maxRecDepth 100000 in
theorem amChk_14 : ((List.range 10).all (fun k => amChkM (140 + k))) = true := by decide +kernel
set_option maxRecDepth 100000 in
theorem amChk_15 : ((List.range 10).all (fun k => amChkM (150 + k))) = true := by decide +kernel
set_option maxRecDepth 100000 in
theorem amChk_16 : ((List.range 10).all (fun k => amChkM (160 + k))) = true := by decide +kernel
set_option maxRecDepth 100000 in
theorem amChk_17 : ((List.range 10).all (fun k => amChkM (170 + k))) = true := by decide +kernel
set_option maxRecDepth 100000 in
theorem amChk_18 : ((List.range 10).all (fun k => amChkM (180 + k))) = true := by decide +kernel
set_option maxRecDepth 100000 in
theorem amChk_19 : ((List.range 10).all (fun k => amChkM (190 + k))) = true := by decide +kernel
set_option maxRecDepth 100000 in
theorem amChk_20 : ((List.range 10).all (fun k => amChkM (200 + k))) = true := by decide +kernel
set_option maxRecDepth 100000 in
theorem amChk_21 : ((List.range 10).all (fun k => amChkM (210 + k))) = true := by decide +kernel
set_option maxRecDepth 100000 in
theorem amChk_22 : ((List.range 10).all (fun k => amChkM (220 + k))) = true := by decide +kernel
set_option maxRecDepth 100000 in
theorem amChk_23 : ((List.range 10).all (fun k => amChkM (230 + k))) = true := by decide +kernel
set_option maxRecDepth 100000 in
theorem amChk_24 : ((List.range 10).all (fun k => amChkM (240 + k))) = true := by decide +kernel
set_option maxRecDepth 100000 in
theorem amChk_25 : ((List.range 10).all (fun k => amChkM (250 + k))) = true := by decide +kernel
set_option maxRecDepth 100000 in
theorem amChk_26 : ((List.range 8).all (fun k => amChkM (260 + k))) = true := by decide +kernel
set_option maxRecDepth 100000 in
theorem amChkL_I : amChk 268 lawI0 0 [] [2, 3, 3, 3] = true := by decide +kernel
set_option maxRecDepth 100000 in
theorem amChkL_0 : ((List.range 3).all (fun k => amChk 268 (blk 268 (1 + k)).2.2.2 (blk 268 (1 + k)).1 (blk 268 (1 + k)).2.1 (blk 268 (1 + k)).2.2.1)) = true := by decide +kernel
set_option maxRecDepth 100000 in
theorem amChkL_1 : ((List.range 3).all (fun k => amChk 268 (blk 268 (4 + k)).2.2.2 (blk 268 (4 + k)).1 (blk 268 (4 + k)).2.1 (blk 268 (4 + k)).2.2.1)) = true := by decide +kernel
set_option maxRecDepth 100000 in
theorem amChkL_2 : ((List.range 3).all (fun k => amChk 268 (blk 268 (7 + k)).2.2.2 (blk 268 (7 + k)).1 (blk 268 (7 + k)).2.1 (blk 268 (7 + k)).2.2.1)) = true := by decide +kernel
set_option maxRecDepth 100000 in
theorem amChkL_3 : ((List.range 3).all (fun k => amChk 268 (blk 268 (10 + k)).2.2.2 (blk 268 (10 + k)).1 (blk 268 (10 + k)).2.1 (blk 268 (10 + k)).2.2.1)) = true := by decide +kernel
set_option maxRecDepth 100000 in
theorem amChkL_4 : ((List.range 3).all (fun k => amChk 268 (blk 268 (13 + k)).2.2.2 (blk 268 (13 + k)).1 (blk 268 (13 + k)).2.1 (blk 268 (13 + k)).2.2.1)) = true := by decide +kernel
set_option maxRecDepth 100000 in
theorem amChkL_5 : ((List.range 3).all (fun k => amChk 268 (blk 268 (16 + k)).2.2.2 (blk 268 (16 + k)).1 (blk 268 (16 + k)).2.1 (blk 268 (16 + k)).2.2.1)) = true := by decide +kernel
set_option maxRecDepth 100000 in
theorem amChkL_6 : ((List.range 3).all (fun k => amChk 268 (blk 268 (19 + k)).2.2.2 (blk 268 (19 + k)).1 (blk 268 (19 + k)).2.1 (blk 268 (19 + k)).2.2.1)) = true := by decide +kernel
set_option maxRecDepth 100000 in
theorem amChkL_7 : ((List.range 3).all (fun k => amChk 268 (blk 268 (22 + k)).2.2.2 (blk 268 (22 + k)).1 (blk 268 (22 + k)).2.1 (blk 268 (22 + k)).2.2.1)) = true := by decide +kernel
set_option maxRecDepth 100000 in
theorem amChkL_8 : ((List.range 3).all (fun k => amChk 268 (blk 268 (25 + k)).2.2.2 (blk 268 (25 + k)).1 (blk 268 (25 + k)).2.1 (blk 268 (25 + k)).2.2.1)) = true := by decide +kernel
set_option maxRecDepth 100000 in
theorem amChkL_9 : ((List.range 3).all (fun k => amChk 268 (blk 268 (28 + k)).2.2.2 (blk 268 (28 + k)).1 (blk 268 (28 + k)).2.1 (blk 268 (28 + k)).2.2.1)) = true := by decide +kernel
set_option maxRecDepth 100000 in
theorem amChkL_10 : ((List.range 3).all (fun k => amChk 268 (blk 268 (31 + k)).2.2.2 (blk 268 (31 + k)).1 (blk 268 (31 + k)).2.1 (blk 268 (31 + k)).2.2.1)) = true := by decide +kernel
set_option maxRecDepth 100000 in
theorem amChkL_11 : ((List.range 3).all (fun k => amChk 268 (blk 268 (34 + k)).2.2.2 (blk 268 (34 + k)).1 (blk 268 (34 + k)).2.1 (blk 268 (34 + k)).2.2.1)) = true := by decide +kernel
set_option maxRecDepth 100000 in
theorem amChkL_12 : ((List.range 3).all (fun k => amChk 268 (blk 268 (37 + k)).2.2.2 (blk 268 (37 + k)).1 (blk 268 (37 + k)).2.1 (blk 268 (37 + k)).2.2.1)) = true := by decide +kernel
set_option maxRecDepth 100000 in
theorem amChkL_13 : ((List.range 3).all (fun k => amChk 268 (blk 268 (40 + k)).2.2.2 (blk 268 (40 + k)).1 (blk 268 (40 + k)).2.1 (blk 268 (40 + k)).2.2.1)) = true := by decide +kernel
set_option maxRecDepth 100000 in
theorem amChkL_14 : ((List.range 3).all (fun k => amChk 268 (blk 268 (43 + k)).2.2.2 (blk 268 (43 + k)).1 (blk 268 (43 + k)).2.1 (blk 268 (43 + k)).2.2.1)) = true := by decide +kernel
theorem amEnt_all : ((List.range 268).all amEnt) = true := by decide +kernel
theorem amPl_all : ((List.range 268).all (fun m => amPlM m || decide ((amY m).name = "<init>"))) = true := by decide +kernel
theorem amChk_at {a n : Nat} (h : ((List.range n).all (fun k => amChkM (a + k))) = true) {m : Nat} (h1 : a ≤ m) (h2 : m < a + n) : amChkM m = true := by
  have h3 := List.all_eq_true.mp h (m - a) (List.mem_range.mpr (by omega))
  rw [show a + (m - a) = m by omega] at h3
  exact h3
theorem amChk_of {m : Nat} (h : m < 268) : amChkM m = true := by
  by_cases h0 : m < 10
  · exact amChk_at amChk_0 (by omega) (by omega)
  by_cases h1 : m < 20
  · exact amChk_at amChk_1 (by omega) (by omega)
  by_cases h2 : m < 30
  · exact amChk_at amChk_2 (by omega) (by omega)
  by_cases h3 : m < 40
  · exact amChk_at amChk_3 (by omega) (by omega)
  by_cases h4 : m < 50
  · exact amChk_at amChk_4 (by omega) (by omega)
  by_cases h5 : m < 60
  · exact amChk_at amChk_5 (by omega) (by omega)
  by_cases h6 : m < 70
  · exact amChk_at amChk_6 (by omega) (by omega)
  by_cases h7 : m < 80
  · exact amChk_at amChk_7 (by omega) (by omega)
  by_cases h8 : m < 90
  · exact amChk_at amChk_8 (by omega) (by omega)
  by_cases h9 : m < 100
  · exact amChk_at amChk_9 (by omega) (by omega)
  by_cases h10 : m < 110
  · exact amChk_at amChk_10 (by omega) (by omega)
  by_cases h11 : m < 120
  · exact amChk_at amChk_11 (by omega) (by omega)
  by_cases h12 : m < 130
  · exact amChk_at amChk_12 (by omega) (by omega)
  by_cases h13 : m < 140
  · exact amChk_at amChk_13 (by omega) (by omega)
  by_cases h14 : m < 150
  · exact amChk_at amChk_14 (by omega) (by omega)
  by_cases h15 : m < 160
  · exact amChk_at amChk_15 (by omega) (by omega)
  by_cases h16 : m < 170
  · exact amChk_at amChk_16 (by omega) (by omega)
  by_cases h17 : m < 180
  · exact amChk_at amChk_17 (by omega) (by omega)
  by_cases h18 : m < 190
  · exact amChk_at amChk_18 (by omega) (by omega)
  by_cases h19 : m < 200
  · exact amChk_at amChk_19 (by omega) (by omega)
  by_cases h20 : m < 210
  · exact amChk_at amChk_20 (by omega) (by omega)
  by_cases h21 : m < 220
  · exact amChk_at amChk_21 (by omega) (by omega)
  by_cases h22 : m < 230
  · exact amChk_at amChk_22 (by omega) (by omega)
  by_cases h23 : m < 240
  · exact amChk_at amChk_23 (by omega) (by omega)
  by_cases h24 : m < 250
  · exact amChk_at amChk_24 (by omega) (by omega)
  by_cases h25 : m < 260
  · exact amChk_at amChk_25 (by omega) (by omega)
  exact amChk_at amChk_26 (by omega) (by omega)
theorem amChkL_at {a n : Nat} (h : ((List.range n).all (fun k => amChk 268 (blk 268 (a + k)).2.2.2 (blk 268 (a + k)).1 (blk 268 (a + k)).2.1 (blk 268 (a + k)).2.2.1)) = true) {m : Nat} (h1 : a ≤ m) (h2 : m < a + n) : amChk 268 (blk 268 m).2.2.2 (blk 268 m).1 (blk 268 m).2.1 (blk 268 m).2.2.1 = true := by
  have h3 := List.all_eq_true.mp h (m - a) (List.mem_range.mpr (by omega))
  rw [show a + (m - a) = m by omega] at h3
  exact h3
theorem amChkL_of {m : Nat} (h0 : 1 ≤ m) (h : m < 46) : amChk 268 (blk 268 m).2.2.2 (blk 268 m).1 (blk 268 m).2.1 (blk 268 m).2.2.1 = true := by
  by_cases h1 : m < 4
  · exact amChkL_at amChkL_0 (by omega) (by omega)
  by_cases h4 : m < 7
  · exact amChkL_at amChkL_1 (by omega) (by omega)
  by_cases h7 : m < 10
  · exact amChkL_at amChkL_2 (by omega) (by omega)
  by_cases h10 : m < 13
  · exact amChkL_at amChkL_3 (by omega) (by omega)
  by_cases h13 : m < 16
  · exact amChkL_at amChkL_4 (by omega) (by omega)
  by_cases h16 : m < 19
  · exact amChkL_at amChkL_5 (by omega) (by omega)
  by_cases h19 : m < 22
  · exact amChkL_at amChkL_6 (by omega) (by omega)
  by_cases h22 : m < 25
  · exact amChkL_at amChkL_7 (by omega) (by omega)
  by_cases h25 : m < 28
  · exact amChkL_at amChkL_8 (by omega) (by omega)
  by_cases h28 : m < 31
  · exact amChkL_at amChkL_9 (by omega) (by omega)
  by_cases h31 : m < 34
  · exact amChkL_at amChkL_10 (by omega) (by omega)
  by_cases h34 : m < 37
  · exact amChkL_at amChkL_11 (by omega) (by omega)
  by_cases h37 : m < 40
  · exact amChkL_at amChkL_12 (by omega) (by omega)
  by_cases h40 : m < 43
  · exact amChkL_at amChkL_13 (by omega) (by omega)
  exact amChkL_at amChkL_14 (by omega) (by omega)
theorem amLaw_len : (prog 268).length = 46 := by decide +kernel
theorem amLaw_0 : blk 268 0 = (0, [], [2, 3, 3, 3], []) := by rfl
theorem amLaw_pl : amPlM 268 = true := by decide +kernel
theorem amLaw_chk : ∀ b, b < (prog 268).length → amChk 268 (blk 268 b).2.2.2 (blk 268 b).1 (blk 268 b).2.1 (blk 268 b).2.2.1 = true ∨ (blk 268 b).2.2.2 = [] := by
  intro b hb
  rw [amLaw_len] at hb
  cases b with
  | zero => exact Or.inr (by rw [amLaw_0])
  | succ b => exact Or.inl (amChkL_of (by omega) hb)
theorem amChk_all : ∀ m, m < 268 → amChkM m = true := fun m h => amChk_of h
theorem amEnt_of : ∀ m, m < 268 → amEnt m = true := fun m h => List.all_eq_true.mp amEnt_all m (List.mem_range.mpr h)
theorem amPl_of : ∀ m, m < 268 → amPlM m = true ∨ (amY m).name = "<init>" := fun m h => by
  have h2 := List.all_eq_true.mp amPl_all m (List.mem_range.mpr h)
  rw [Bool.or_eq_true] at h2
  exact h2.imp id of_decide_eq_true
